/-! The model: printed by mgen.py -/
section N5
variable {K : Ka} {d m p h : Nat} {M : Me} {I : Nat → Nat → Int32} {J : Nat → Nat → Int64} {D : Nat → Nat → Nat} {G : Nat → Nat → Int32}
set_option maxHeartbeats 4000000 in
theorem M130_0 [NeZero p] { d' : Nat} {z0 a1 b1 c1 : Int32} {post : Option Value → Me → Prop} (hM : MoM M m) (hA : MoA I m p h D) (hz0 : z0 = nI 0) (hd : d + 13 ≤ d') (hp : ∀ I1 G1 J1, OutM I I1 G1 m p h 1 (Int32.ofInt 0) (nk0 p D h a1) → post (some (.int (nk0 p D h a1).1)) (St M (rg I1 m G1) J1)) : Ok K d' 130 [.ref m, .int z0, .int a1, .int b1, .int c1] (St M (rg I m G) J) post := by
  refine Ok.up (d := d + 13) (post := post) ?_ hd (fun _ _ h => h)
  subst hz0
  refine Ok.go (e := me_130) rfl rfl (Nat.le_of_ble_eq_true rfl) hM.c ?_
  refine Rf.go 300 [3, 45] ?_
  refine And.intro ⟨hM.c, Or.inl rfl⟩ ?_
  refine Rf.put ?_
  refine Rf.go 300 [3, 45] ?_
  have hA1 := hA.put (x := Int32.ofInt 0) (q := 17) (by decide) (by decide)
  refine And.intro (fun hb => absurd hb (by decide)) (fun _ => ?_)
  refine x_set0 (d := d) (p := p) (D := D) (h := h) (r := 0) hM (by decide) (by decide) (by have := hA1.1.2.2.2.1.1; omega) (by omega) (fun G2 J2 q2 f2 => ?_)
  refine And.intro (fun hb => absurd hb (by decide)) (fun _ => ?_)
  refine x_set0 (d := d) (p := p) (D := D) (h := h) (r := 1) hM (by decide) (by decide) (by have := hA1.1.2.2.2.1.1; omega) (by omega) (fun G3 J3 q3 f3 => ?_)
  refine And.intro (fun hb => absurd hb (by decide)) (fun _ => ?_)
  refine x_set0 (d := d) (p := p) (D := D) (h := h) (r := 2) hM (by decide) (by decide) (by have := hA1.1.2.2.2.1.1; omega) (by omega) (fun G4 J4 q4 f4 => ?_)
  refine And.intro (fun _ => ?_) (fun hb => absurd (by decide) hb)
  refine And.intro (fun hb => absurd hb (by decide)) (fun _ => ?_)
  refine And.intro hM.c ?_
  refine Rf.put ?_
  refine Rf.go 300 [3, 45] ?_
  have hA5 := hA1.put (x := Int32.ofInt 0) (q := 16) (by decide) (by decide)
  refine And.intro (fun hb => absurd hb (by decide)) (fun _ => ⟨47, rfl, ?_⟩)
  refine m_residue (d := d) (p := p) (x := a1) hM rfl (by rw [rg_m]; exact hA5.1.1) (by have := hA5.1.2.2.2.1.1; omega) hA5.1.2.2.2.1.2 (by omega) ?_
  refine x_setE (d := d) (p := p) (D := D) (h := h) (r := 0) (c := rs a1 p) hM rfl rfl (by decide) (by have := hA5.1.2.2.2.1.1; omega) (rs_lt (by have := hA5.1.2.2.2.1.1; omega)) (by omega) (fun G6 J6 q6 f6 => ?_)
  exact ⟨rfl, hp (u2 (u2 I m 17 (Int32.ofInt 0)) m 16 (Int32.ofInt 0)) G6 J6 (OutM.r1 hA5 q6 (by rw [u2_at, if_pos rfl]) (by rw [u2_at, if_neg (by decide), u2_at, if_pos rfl, Nat.sub_self]; rfl) ((FrX.refl.put (Or.inr rfl)).put (Or.inl rfl)))⟩
set_option maxHeartbeats 4000000 in
theorem M130_1 [NeZero p] {a1 b1 d' : Nat} {z0 z1 z2 c1 : Int32} {A B : TR p D h} {post : Option Value → Me → Prop} (hM : MoM M m) (hA : MoA I m p h D) (hz0 : z0 = nI 1) (hz1 : z1 = nI a1) (hz2 : z2 = nI b1) (ha : a1 < 60) (hb : b1 < 60) (hA0 : ∀ j, j < 8 → I (m + 7) (24 * a1 + 8 * 0 + j) = vE p D h A j) (hB0 : ∀ j, j < 8 → I (m + 7) (24 * b1 + 8 * 0 + j) = vE p D h B j) (hd : d + 13 ≤ d') (hp : ∀ I1 G1 J1, OutM I I1 G1 m p h 1 (Int32.ofInt 0) (nk1 p D h A B) → post (some (.int (nk1 p D h A B).1)) (St M (rg I1 m G1) J1)) : Ok K d' 130 [.ref m, .int z0, .int z1, .int z2, .int c1] (St M (rg I m G) J) post := by
  refine Ok.up (d := d + 13) (post := post) ?_ hd (fun _ _ h => h)
  subst hz0 hz1 hz2
  refine Ok.go (e := me_130) rfl rfl (Nat.le_of_ble_eq_true rfl) hM.c ?_
  refine Rf.go 300 [3, 45] ?_
  refine And.intro ⟨hM.c, Or.inl rfl⟩ ?_
  refine Rf.put ?_
  refine Rf.go 300 [3, 45] ?_
  have hA1 := hA.put (x := Int32.ofInt 0) (q := 17) (by decide) (by decide)
  refine And.intro (fun hb => absurd hb (by decide)) (fun _ => ?_)
  refine x_set0 (d := d) (p := p) (D := D) (h := h) (r := 0) hM (by decide) (by decide) (by have := hA1.1.2.2.2.1.1; omega) (by omega) (fun G2 J2 q2 f2 => ?_)
  refine And.intro (fun hb => absurd hb (by decide)) (fun _ => ?_)
  refine x_set0 (d := d) (p := p) (D := D) (h := h) (r := 1) hM (by decide) (by decide) (by have := hA1.1.2.2.2.1.1; omega) (by omega) (fun G3 J3 q3 f3 => ?_)
  refine And.intro (fun hb => absurd hb (by decide)) (fun _ => ?_)
  refine x_set0 (d := d) (p := p) (D := D) (h := h) (r := 2) hM (by decide) (by decide) (by have := hA1.1.2.2.2.1.1; omega) (by omega) (fun G4 J4 q4 f4 => ?_)
  refine And.intro (fun _ => ?_) (fun hb => absurd (by decide) hb)
  refine And.intro (fun hb => absurd hb (by decide)) (fun _ => ?_)
  refine And.intro hM.c ?_
  refine Rf.put ?_
  refine Rf.go 300 [3, 45] ?_
  have hA5 := hA1.put (x := Int32.ofInt 0) (q := 16) (by decide) (by decide)
  refine And.intro (fun hb => absurd hb (by decide)) (fun _ => ⟨166, rfl, ?_⟩)
  refine M131_1 (d := d) (a1 := a1) (b1 := b1) hM hA5 rfl rfl rfl (by omega) (by omega) (fun j hj => (congrFun ((u2_ne (f := (u2 I m 17 (Int32.ofInt 0))) (j := 16) (v := Int32.ofInt 0) (show m + 7 ≠ m by omega)).trans (u2_ne (f := I) (j := 17) (v := Int32.ofInt 0) (show m + 7 ≠ m by omega))) _).trans (hA0 j hj)) (fun j hj => (congrFun ((u2_ne (f := (u2 I m 17 (Int32.ofInt 0))) (j := 16) (v := Int32.ofInt 0) (show m + 7 ≠ m by omega)).trans (u2_ne (f := I) (j := 17) (v := Int32.ofInt 0) (show m + 7 ≠ m by omega))) _).trans (hB0 j hj)) (by rw [u2_at, if_pos rfl]) (by rw [u2_at, if_neg (by decide), u2_at, if_pos rfl]; rfl) (by omega) (fun I9 G9 J9 o9 => ?_)
  exact ⟨rfl, hp I9 G9 J9 (OutM.from ((FrX.refl.put (Or.inr rfl)).put (Or.inl rfl)) o9)⟩
set_option maxHeartbeats 4000000 in
theorem M130_2 [NeZero p] {a1 b1 d' : Nat} {z0 z1 z2 c1 : Int32} {A B : TR p D h} {post : Option Value → Me → Prop} (hM : MoM M m) (hA : MoA I m p h D) (hz0 : z0 = nI 2) (hz1 : z1 = nI a1) (hz2 : z2 = nI b1) (ha : a1 < 60) (hb : b1 < 60) (hA0 : ∀ j, j < 8 → I (m + 7) (24 * a1 + 8 * 0 + j) = vE p D h A j) (hB0 : ∀ j, j < 8 → I (m + 7) (24 * b1 + 8 * 0 + j) = vE p D h B j) (hd : d + 13 ≤ d') (hp : ∀ I1 G1 J1, OutM I I1 G1 m p h 1 (Int32.ofInt 0) (nk2 p D h A B) → post (some (.int (nk2 p D h A B).1)) (St M (rg I1 m G1) J1)) : Ok K d' 130 [.ref m, .int z0, .int z1, .int z2, .int c1] (St M (rg I m G) J) post := by
  refine Ok.up (d := d + 13) (post := post) ?_ hd (fun _ _ h => h)
  subst hz0 hz1 hz2
  refine Ok.go (e := me_130) rfl rfl (Nat.le_of_ble_eq_true rfl) hM.c ?_
  refine Rf.go 300 [3, 45] ?_
  refine And.intro ⟨hM.c, Or.inl rfl⟩ ?_
  refine Rf.put ?_
  refine Rf.go 300 [3, 45] ?_
  have hA1 := hA.put (x := Int32.ofInt 0) (q := 17) (by decide) (by decide)
  refine And.intro (fun hb => absurd hb (by decide)) (fun _ => ?_)
  refine x_set0 (d := d) (p := p) (D := D) (h := h) (r := 0) hM (by decide) (by decide) (by have := hA1.1.2.2.2.1.1; omega) (by omega) (fun G2 J2 q2 f2 => ?_)
  refine And.intro (fun hb => absurd hb (by decide)) (fun _ => ?_)
  refine x_set0 (d := d) (p := p) (D := D) (h := h) (r := 1) hM (by decide) (by decide) (by have := hA1.1.2.2.2.1.1; omega) (by omega) (fun G3 J3 q3 f3 => ?_)
  refine And.intro (fun hb => absurd hb (by decide)) (fun _ => ?_)
  refine x_set0 (d := d) (p := p) (D := D) (h := h) (r := 2) hM (by decide) (by decide) (by have := hA1.1.2.2.2.1.1; omega) (by omega) (fun G4 J4 q4 f4 => ?_)
  refine And.intro (fun _ => ?_) (fun hb => absurd (by decide) hb)
  refine And.intro (fun hb => absurd hb (by decide)) (fun _ => ?_)
  refine And.intro hM.c ?_
  refine Rf.put ?_
  refine Rf.go 300 [3, 45] ?_
  have hA5 := hA1.put (x := Int32.ofInt 0) (q := 16) (by decide) (by decide)
  refine And.intro (fun hb => absurd hb (by decide)) (fun _ => ⟨166, rfl, ?_⟩)
  refine M131_2 (d := d) (a1 := a1) (b1 := b1) hM hA5 rfl rfl rfl (by omega) (by omega) (fun j hj => (congrFun ((u2_ne (f := (u2 I m 17 (Int32.ofInt 0))) (j := 16) (v := Int32.ofInt 0) (show m + 7 ≠ m by omega)).trans (u2_ne (f := I) (j := 17) (v := Int32.ofInt 0) (show m + 7 ≠ m by omega))) _).trans (hA0 j hj)) (fun j hj => (congrFun ((u2_ne (f := (u2 I m 17 (Int32.ofInt 0))) (j := 16) (v := Int32.ofInt 0) (show m + 7 ≠ m by omega)).trans (u2_ne (f := I) (j := 17) (v := Int32.ofInt 0) (show m + 7 ≠ m by omega))) _).trans (hB0 j hj)) (by rw [u2_at, if_pos rfl]) (by rw [u2_at, if_neg (by decide), u2_at, if_pos rfl]; rfl) (by omega) (fun I9 G9 J9 o9 => ?_)
  exact ⟨rfl, hp I9 G9 J9 (OutM.from ((FrX.refl.put (Or.inr rfl)).put (Or.inl rfl)) o9)⟩
set_option maxHeartbeats 4000000 in
theorem M130_3 [NeZero p] {a1 b1 d' : Nat} {z0 z1 z2 c1 : Int32} {A B : TR p D h} {post : Option Value → Me → Prop} (hM : MoM M m) (hA : MoA I m p h D) (hz0 : z0 = nI 3) (hz1 : z1 = nI a1) (hz2 : z2 = nI b1) (ha : a1 < 60) (hb : b1 < 60) (hA0 : ∀ j, j < 8 → I (m + 7) (24 * a1 + 8 * 0 + j) = vE p D h A j) (hB0 : ∀ j, j < 8 → I (m + 7) (24 * b1 + 8 * 0 + j) = vE p D h B j) (hd : d + 13 ≤ d') (hp : ∀ I1 G1 J1, OutM I I1 G1 m p h 1 (Int32.ofInt 0) (nk3 p D h A B) → post (some (.int (nk3 p D h A B).1)) (St M (rg I1 m G1) J1)) : Ok K d' 130 [.ref m, .int z0, .int z1, .int z2, .int c1] (St M (rg I m G) J) post := by
  refine Ok.up (d := d + 13) (post := post) ?_ hd (fun _ _ h => h)
  subst hz0 hz1 hz2
  refine Ok.go (e := me_130) rfl rfl (Nat.le_of_ble_eq_true rfl) hM.c ?_
  refine Rf.go 300 [3, 45] ?_
  refine And.intro ⟨hM.c, Or.inl rfl⟩ ?_
  refine Rf.put ?_
  refine Rf.go 300 [3, 45] ?_
  have hA1 := hA.put (x := Int32.ofInt 0) (q := 17) (by decide) (by decide)
  refine And.intro (fun hb => absurd hb (by decide)) (fun _ => ?_)
  refine x_set0 (d := d) (p := p) (D := D) (h := h) (r := 0) hM (by decide) (by decide) (by have := hA1.1.2.2.2.1.1; omega) (by omega) (fun G2 J2 q2 f2 => ?_)
  refine And.intro (fun hb => absurd hb (by decide)) (fun _ => ?_)
  refine x_set0 (d := d) (p := p) (D := D) (h := h) (r := 1) hM (by decide) (by decide) (by have := hA1.1.2.2.2.1.1; omega) (by omega) (fun G3 J3 q3 f3 => ?_)
  refine And.intro (fun hb => absurd hb (by decide)) (fun _ => ?_)
  refine x_set0 (d := d) (p := p) (D := D) (h := h) (r := 2) hM (by decide) (by decide) (by have := hA1.1.2.2.2.1.1; omega) (by omega) (fun G4 J4 q4 f4 => ?_)
  refine And.intro (fun _ => ?_) (fun hb => absurd (by decide) hb)
  refine And.intro (fun hb => absurd hb (by decide)) (fun _ => ?_)
  refine And.intro hM.c ?_
  refine Rf.put ?_
  refine Rf.go 300 [3, 45] ?_
  have hA5 := hA1.put (x := Int32.ofInt 0) (q := 16) (by decide) (by decide)
  refine And.intro (fun hb => absurd hb (by decide)) (fun _ => ⟨166, rfl, ?_⟩)
  refine M131_3 (d := d) (a1 := a1) (b1 := b1) hM hA5 rfl rfl rfl (by omega) (by omega) (fun j hj => (congrFun ((u2_ne (f := (u2 I m 17 (Int32.ofInt 0))) (j := 16) (v := Int32.ofInt 0) (show m + 7 ≠ m by omega)).trans (u2_ne (f := I) (j := 17) (v := Int32.ofInt 0) (show m + 7 ≠ m by omega))) _).trans (hA0 j hj)) (fun j hj => (congrFun ((u2_ne (f := (u2 I m 17 (Int32.ofInt 0))) (j := 16) (v := Int32.ofInt 0) (show m + 7 ≠ m by omega)).trans (u2_ne (f := I) (j := 17) (v := Int32.ofInt 0) (show m + 7 ≠ m by omega))) _).trans (hB0 j hj)) (by rw [u2_at, if_pos rfl]) (by rw [u2_at, if_neg (by decide), u2_at, if_pos rfl]; rfl) (by omega) (fun I9 G9 J9 o9 => ?_)
  exact ⟨rfl, hp I9 G9 J9 (OutM.from ((FrX.refl.put (Or.inr rfl)).put (Or.inl rfl)) o9)⟩
set_option maxHeartbeats 4000000 in
theorem M130_4 [NeZero p] {a1 b1 d' : Nat} {z0 z1 z2 c1 : Int32} {A B : TR p D h} {post : Option Value → Me → Prop} (hM : MoM M m) (hA : MoA I m p h D) (hz0 : z0 = nI 4) (hz1 : z1 = nI a1) (hz2 : z2 = nI b1) (ha : a1 < 60) (hb : b1 < 60) (hA0 : ∀ j, j < 8 → I (m + 7) (24 * a1 + 8 * 0 + j) = vE p D h A j) (hB0 : ∀ j, j < 8 → I (m + 7) (24 * b1 + 8 * 0 + j) = vE p D h B j) (hd : d + 13 ≤ d') (hp : ∀ I1 G1 J1, OutM I I1 G1 m p h 1 (Int32.ofInt 0) (nk4 p D h A B) → post (some (.int (nk4 p D h A B).1)) (St M (rg I1 m G1) J1)) : Ok K d' 130 [.ref m, .int z0, .int z1, .int z2, .int c1] (St M (rg I m G) J) post := by
  refine Ok.up (d := d + 13) (post := post) ?_ hd (fun _ _ h => h)
  subst hz0 hz1 hz2
  refine Ok.go (e := me_130) rfl rfl (Nat.le_of_ble_eq_true rfl) hM.c ?_
  refine Rf.go 300 [3, 45] ?_
  refine And.intro ⟨hM.c, Or.inl rfl⟩ ?_
  refine Rf.put ?_
  refine Rf.go 300 [3, 45] ?_
  have hA1 := hA.put (x := Int32.ofInt 0) (q := 17) (by decide) (by decide)
  refine And.intro (fun hb => absurd hb (by decide)) (fun _ => ?_)
  refine x_set0 (d := d) (p := p) (D := D) (h := h) (r := 0) hM (by decide) (by decide) (by have := hA1.1.2.2.2.1.1; omega) (by omega) (fun G2 J2 q2 f2 => ?_)
  refine And.intro (fun hb => absurd hb (by decide)) (fun _ => ?_)
  refine x_set0 (d := d) (p := p) (D := D) (h := h) (r := 1) hM (by decide) (by decide) (by have := hA1.1.2.2.2.1.1; omega) (by omega) (fun G3 J3 q3 f3 => ?_)
  refine And.intro (fun hb => absurd hb (by decide)) (fun _ => ?_)
  refine x_set0 (d := d) (p := p) (D := D) (h := h) (r := 2) hM (by decide) (by decide) (by have := hA1.1.2.2.2.1.1; omega) (by omega) (fun G4 J4 q4 f4 => ?_)
  refine And.intro (fun _ => ?_) (fun hb => absurd (by decide) hb)
  refine And.intro (fun hb => absurd hb (by decide)) (fun _ => ?_)
  refine And.intro hM.c ?_
  refine Rf.put ?_
  refine Rf.go 300 [3, 45] ?_
  have hA5 := hA1.put (x := Int32.ofInt 0) (q := 16) (by decide) (by decide)
  refine And.intro (fun hb => absurd hb (by decide)) (fun _ => ⟨166, rfl, ?_⟩)
  refine M131_4 (d := d) (a1 := a1) (b1 := b1) hM hA5 rfl rfl rfl (by omega) (by omega) (fun j hj => (congrFun ((u2_ne (f := (u2 I m 17 (Int32.ofInt 0))) (j := 16) (v := Int32.ofInt 0) (show m + 7 ≠ m by omega)).trans (u2_ne (f := I) (j := 17) (v := Int32.ofInt 0) (show m + 7 ≠ m by omega))) _).trans (hA0 j hj)) (fun j hj => (congrFun ((u2_ne (f := (u2 I m 17 (Int32.ofInt 0))) (j := 16) (v := Int32.ofInt 0) (show m + 7 ≠ m by omega)).trans (u2_ne (f := I) (j := 17) (v := Int32.ofInt 0) (show m + 7 ≠ m by omega))) _).trans (hB0 j hj)) (by rw [u2_at, if_pos rfl]) (by rw [u2_at, if_neg (by decide), u2_at, if_pos rfl]; rfl) (by omega) (fun I9 G9 J9 o9 => ?_)
  exact ⟨rfl, hp I9 G9 J9 (OutM.from ((FrX.refl.put (Or.inr rfl)).put (Or.inl rfl)) o9)⟩
set_option maxHeartbeats 4000000 in
theorem M130_5 [NeZero p] {a1 d' : Nat} {z0 z1 b1 c1 : Int32} {A : TR p D h} {post : Option Value → Me → Prop} (hM : MoM M m) (hA : MoA I m p h D) (hz0 : z0 = nI 5) (hz1 : z1 = nI a1) (ha : a1 < 60) (hA0 : ∀ j, j < 8 → I (m + 7) (24 * a1 + 8 * 0 + j) = vE p D h A j) (hd : d + 13 ≤ d') (hp : ∀ I1 G1 J1, OutM I I1 G1 m p h 1 (Int32.ofInt 0) (nk5 p D h A) → post (some (.int (nk5 p D h A).1)) (St M (rg I1 m G1) J1)) : Ok K d' 130 [.ref m, .int z0, .int z1, .int b1, .int c1] (St M (rg I m G) J) post := by
  refine Ok.up (d := d + 13) (post := post) ?_ hd (fun _ _ h => h)
  subst hz0 hz1
  refine Ok.go (e := me_130) rfl rfl (Nat.le_of_ble_eq_true rfl) hM.c ?_
  refine Rf.go 300 [3, 45] ?_
  refine And.intro ⟨hM.c, Or.inl rfl⟩ ?_
  refine Rf.put ?_
  refine Rf.go 300 [3, 45] ?_
  have hA1 := hA.put (x := Int32.ofInt 0) (q := 17) (by decide) (by decide)
  refine And.intro (fun hb => absurd hb (by decide)) (fun _ => ?_)
  refine x_set0 (d := d) (p := p) (D := D) (h := h) (r := 0) hM (by decide) (by decide) (by have := hA1.1.2.2.2.1.1; omega) (by omega) (fun G2 J2 q2 f2 => ?_)
  refine And.intro (fun hb => absurd hb (by decide)) (fun _ => ?_)
  refine x_set0 (d := d) (p := p) (D := D) (h := h) (r := 1) hM (by decide) (by decide) (by have := hA1.1.2.2.2.1.1; omega) (by omega) (fun G3 J3 q3 f3 => ?_)
  refine And.intro (fun hb => absurd hb (by decide)) (fun _ => ?_)
  refine x_set0 (d := d) (p := p) (D := D) (h := h) (r := 2) hM (by decide) (by decide) (by have := hA1.1.2.2.2.1.1; omega) (by omega) (fun G4 J4 q4 f4 => ?_)
  refine And.intro (fun _ => ?_) (fun hb => absurd (by decide) hb)
  refine And.intro (fun hb => absurd hb (by decide)) (fun _ => ?_)
  refine And.intro hM.c ?_
  refine Rf.put ?_
  refine Rf.go 300 [3, 45] ?_
  have hA5 := hA1.put (x := Int32.ofInt 0) (q := 16) (by decide) (by decide)
  refine And.intro (fun hb => absurd hb (by decide)) (fun _ => ⟨56, rfl, ?_⟩)
  refine x_loadE (d := d) (r := 3) (a := a1) (k := 0) (v := vE p D h A) hM rfl rfl rfl (by decide) (by omega) (by omega) (fun j hj => (congrFun ((u2_ne (f := (u2 I m 17 (Int32.ofInt 0))) (j := 16) (v := Int32.ofInt 0) (show m + 7 ≠ m by omega)).trans (u2_ne (f := I) (j := 17) (v := Int32.ofInt 0) (show m + 7 ≠ m by omega))) _).trans (hA0 j hj)) (by omega) (fun G6 J6 q6 f6 => ?_)
  refine m_rooted (d := d) (r := 0) (a := 3) (X := A) hM hA5 rfl rfl (by decide) (by decide) (by decide) q6 (by omega) (fun c8 I10 G7 J7 hA9 q7 f7 fg11 w12 => ?_) (fun c8 G7 J7 f7 => ?_)
  · rw [show nk5 p D h A = (Int32.ofInt 0, (gB p D h A), (gH p D h A), rz3 (tV p (gB p D h A) (gH p D h A) (oV p (gB p D h A) (gH p D h A) (rV p D h A))) (fun _ => 0) (fun _ => 0)) from if_pos c8] at hp
    exact ⟨rfl, hp I10 G7 J7 (OutM.r1 hA9 q7 ((fg11.2 16 (by decide) (by decide)).trans (by rw [u2_at, if_pos rfl])) (by rw [w12, u2_at, if_neg (by decide), u2_at, if_pos rfl]; exact gW_0) (((FrX.refl.put (Or.inr rfl)).put (Or.inl rfl)).trans fg11.x))⟩
  · rw [show nk5 p D h A = rzN (Int32.ofInt (-5)) D h from if_neg c8] at hp
    exact ⟨rfl, hp (u2 (u2 I m 17 (Int32.ofInt 0)) m 16 (Int32.ofInt 0)) G7 J7 (OutM.no (by decide) hA5 (by rw [u2_at, if_neg (by decide), u2_at, if_pos rfl]; rfl) ((FrX.refl.put (Or.inr rfl)).put (Or.inl rfl)))⟩
set_option maxHeartbeats 4000000 in
theorem M130_6 [NeZero p] {a1 b1 d' : Nat} {z0 z1 z2 c1 : Int32} {A B : TR p D h} {post : Option Value → Me → Prop} (hM : MoM M m) (hA : MoA I m p h D) (hz0 : z0 = nI 6) (hz1 : z1 = nI a1) (hz2 : z2 = nI b1) (ha : a1 < 60) (hb : b1 < 60) (hA0 : ∀ j, j < 8 → I (m + 7) (24 * a1 + 8 * 0 + j) = vE p D h A j) (hB0 : ∀ j, j < 8 → I (m + 7) (24 * b1 + 8 * 0 + j) = vE p D h B j) (hd : d + 13 ≤ d') (hp : ∀ I1 G1 J1, OutM I I1 G1 m p h 2 (Int32.ofInt 1) (nk6 p D h A B) → post (some (.int (nk6 p D h A B).1)) (St M (rg I1 m G1) J1)) : Ok K d' 130 [.ref m, .int z0, .int z1, .int z2, .int c1] (St M (rg I m G) J) post := by
  refine Ok.up (d := d + 13) (post := post) ?_ hd (fun _ _ h => h)
  subst hz0 hz1 hz2
  refine Ok.go (e := me_130) rfl rfl (Nat.le_of_ble_eq_true rfl) hM.c ?_
  refine Rf.go 300 [3, 45] ?_
  refine And.intro ⟨hM.c, Or.inl rfl⟩ ?_
  refine Rf.put ?_
  refine Rf.go 300 [3, 45] ?_
  have hA1 := hA.put (x := Int32.ofInt 0) (q := 17) (by decide) (by decide)
  refine And.intro (fun hb => absurd hb (by decide)) (fun _ => ?_)
  refine x_set0 (d := d) (p := p) (D := D) (h := h) (r := 0) hM (by decide) (by decide) (by have := hA1.1.2.2.2.1.1; omega) (by omega) (fun G2 J2 q2 f2 => ?_)
  refine And.intro (fun hb => absurd hb (by decide)) (fun _ => ?_)
  refine x_set0 (d := d) (p := p) (D := D) (h := h) (r := 1) hM (by decide) (by decide) (by have := hA1.1.2.2.2.1.1; omega) (by omega) (fun G3 J3 q3 f3 => ?_)
  refine And.intro (fun hb => absurd hb (by decide)) (fun _ => ?_)
  refine x_set0 (d := d) (p := p) (D := D) (h := h) (r := 2) hM (by decide) (by decide) (by have := hA1.1.2.2.2.1.1; omega) (by omega) (fun G4 J4 q4 f4 => ?_)
  refine And.intro (fun _ => ?_) (fun hb => absurd (by decide) hb)
  refine And.intro (fun _ => ?_) (fun hb => absurd (by decide) hb)
  refine And.intro (fun _ => ?_) (fun hb => absurd (by decide) hb)
  refine And.intro hM.c ?_
  refine Rf.put ?_
  refine Rf.go 300 [3, 45] ?_
  have hA5 := hA1.put (x := Int32.ofInt 1) (q := 16) (by decide) (by decide)
  refine And.intro (fun hb => absurd hb (by decide)) (fun _ => ⟨66, rfl, ?_⟩)
  refine x_loadE (d := d) (r := 0) (a := a1) (k := 0) (v := vE p D h A) hM rfl rfl rfl (by decide) (by omega) (by omega) (fun j hj => (congrFun ((u2_ne (f := (u2 I m 17 (Int32.ofInt 0))) (j := 16) (v := Int32.ofInt 1) (show m + 7 ≠ m by omega)).trans (u2_ne (f := I) (j := 17) (v := Int32.ofInt 0) (show m + 7 ≠ m by omega))) _).trans (hA0 j hj)) (by omega) (fun G6 J6 q6 f6 => ?_)
  refine x_loadE (d := d) (r := 1) (a := b1) (k := 0) (v := vE p D h B) hM rfl rfl rfl (by decide) (by omega) (by omega) (fun j hj => (congrFun ((u2_ne (f := (u2 I m 17 (Int32.ofInt 0))) (j := 16) (v := Int32.ofInt 1) (show m + 7 ≠ m by omega)).trans (u2_ne (f := I) (j := 17) (v := Int32.ofInt 0) (show m + 7 ≠ m by omega))) _).trans (hB0 j hj)) (by omega) (fun G7 J7 q7 f7 => ?_)
  have q8 := ((f7 0 (by decide)).trans q6)
  exact ⟨rfl, hp (u2 (u2 I m 17 (Int32.ofInt 0)) m 16 (Int32.ofInt 1)) G7 J7 (OutM.r2 hA5 q8 q7 (by rw [u2_at, if_pos rfl]) (by rw [u2_at, if_neg (by decide), u2_at, if_pos rfl, Nat.sub_self]; rfl) ((FrX.refl.put (Or.inr rfl)).put (Or.inl rfl)))⟩
set_option maxHeartbeats 4000000 in
theorem M130_7 [NeZero p] {a1 b1 d' : Nat} {z0 z1 z2 c1 : Int32} {S0 S1 S2 T0 T1 T2 : TR p D h} {post : Option Value → Me → Prop} (hM : MoM M m) (hA : MoA I m p h D) (hz0 : z0 = nI 7) (hz1 : z1 = nI a1) (hz2 : z2 = nI b1) (ha : a1 < 60) (hb : b1 < 60) (hS0v : ∀ j, j < 8 → I (m + 7) (24 * a1 + 8 * 0 + j) = vE p D h S0 j) (hS1v : ∀ j, j < 8 → I (m + 7) (24 * a1 + 8 * 1 + j) = vE p D h S1 j) (hS2v : ∀ j, j < 8 → I (m + 7) (24 * a1 + 8 * 2 + j) = vE p D h S2 j) (hT0v : ∀ j, j < 8 → I (m + 7) (24 * b1 + 8 * 0 + j) = vE p D h T0 j) (hT1v : ∀ j, j < 8 → I (m + 7) (24 * b1 + 8 * 1 + j) = vE p D h T1 j) (hT2v : ∀ j, j < 8 → I (m + 7) (24 * b1 + 8 * 2 + j) = vE p D h T2 j) (hse : I (m + 5) a1 = I (m + 5) b1) (hS2 : S2 = T2) (hd : d + 13 ≤ d') (hp : ∀ I1 G1 J1, OutM I I1 G1 m p h 3 (Int32.ofInt 2) (nk7 p D h S0 S1 T0 T1) → post (some (.int (nk7 p D h S0 S1 T0 T1).1)) (St M (rg I1 m G1) J1)) : Ok K d' 130 [.ref m, .int z0, .int z1, .int z2, .int c1] (St M (rg I m G) J) post := by
  refine Ok.up (d := d + 13) (post := post) ?_ hd (fun _ _ h => h)
  subst hz0 hz1 hz2
  refine Ok.go (e := me_130) rfl rfl (Nat.le_of_ble_eq_true rfl) hM.c ?_
  refine Rf.go 300 [3, 45] ?_
  refine And.intro ⟨hM.c, Or.inl rfl⟩ ?_
  refine Rf.put ?_
  refine Rf.go 300 [3, 45] ?_
  have hA1 := hA.put (x := Int32.ofInt 0) (q := 17) (by decide) (by decide)
  refine And.intro (fun hb => absurd hb (by decide)) (fun _ => ?_)
  refine x_set0 (d := d) (p := p) (D := D) (h := h) (r := 0) hM (by decide) (by decide) (by have := hA1.1.2.2.2.1.1; omega) (by omega) (fun G2 J2 q2 f2 => ?_)
  refine And.intro (fun hb => absurd hb (by decide)) (fun _ => ?_)
  refine x_set0 (d := d) (p := p) (D := D) (h := h) (r := 1) hM (by decide) (by decide) (by have := hA1.1.2.2.2.1.1; omega) (by omega) (fun G3 J3 q3 f3 => ?_)
  refine And.intro (fun hb => absurd hb (by decide)) (fun _ => ?_)
  refine x_set0 (d := d) (p := p) (D := D) (h := h) (r := 2) hM (by decide) (by decide) (by have := hA1.1.2.2.2.1.1; omega) (by omega) (fun G4 J4 q4 f4 => ?_)
  refine And.intro (fun _ => ?_) (fun hb => absurd (by decide) hb)
  refine And.intro (fun _ => ?_) (fun hb => absurd (by decide) hb)
  refine And.intro (fun hb => absurd hb (by decide)) (fun _ => ?_)
  refine And.intro (fun _ => ?_) (fun hb => absurd (by decide) hb)
  refine And.intro (fun hb => absurd hb (by decide)) (fun _ => ?_)
  refine And.intro (fun _ => ?_) (fun hb => absurd (by decide) hb)
  refine And.intro (fun _ => ?_) (fun hb => absurd (by decide) hb)
  refine And.intro hM.c ?_
  refine Rf.put ?_
  refine Rf.go 300 [3, 45] ?_
  have hA5 := hA1.put (x := Int32.ofInt 2) (q := 16) (by decide) (by decide)
  refine And.intro (fun hb => absurd hb (by decide)) (fun _ => ⟨78, rfl, ?_⟩)
  refine M132 (d := d) (a1 := a1) (b1 := b1) hM hA5 rfl rfl (by omega) (by omega) (fun j hj => (congrFun ((u2_ne (f := (u2 I m 17 (Int32.ofInt 0))) (j := 16) (v := Int32.ofInt 2) (show m + 7 ≠ m by omega)).trans (u2_ne (f := I) (j := 17) (v := Int32.ofInt 0) (show m + 7 ≠ m by omega))) _).trans (hS0v j hj)) (fun j hj => (congrFun ((u2_ne (f := (u2 I m 17 (Int32.ofInt 0))) (j := 16) (v := Int32.ofInt 2) (show m + 7 ≠ m by omega)).trans (u2_ne (f := I) (j := 17) (v := Int32.ofInt 0) (show m + 7 ≠ m by omega))) _).trans (hS1v j hj)) (fun j hj => (congrFun ((u2_ne (f := (u2 I m 17 (Int32.ofInt 0))) (j := 16) (v := Int32.ofInt 2) (show m + 7 ≠ m by omega)).trans (u2_ne (f := I) (j := 17) (v := Int32.ofInt 0) (show m + 7 ≠ m by omega))) _).trans (hS2v j hj)) (fun j hj => (congrFun ((u2_ne (f := (u2 I m 17 (Int32.ofInt 0))) (j := 16) (v := Int32.ofInt 2) (show m + 7 ≠ m by omega)).trans (u2_ne (f := I) (j := 17) (v := Int32.ofInt 0) (show m + 7 ≠ m by omega))) _).trans (hT0v j hj)) (fun j hj => (congrFun ((u2_ne (f := (u2 I m 17 (Int32.ofInt 0))) (j := 16) (v := Int32.ofInt 2) (show m + 7 ≠ m by omega)).trans (u2_ne (f := I) (j := 17) (v := Int32.ofInt 0) (show m + 7 ≠ m by omega))) _).trans (hT1v j hj)) (fun j hj => (congrFun ((u2_ne (f := (u2 I m 17 (Int32.ofInt 0))) (j := 16) (v := Int32.ofInt 2) (show m + 7 ≠ m by omega)).trans (u2_ne (f := I) (j := 17) (v := Int32.ofInt 0) (show m + 7 ≠ m by omega))) _).trans (hT2v j hj)) ((congrFun (u2_ne (show m + 5 ≠ m by omega)) _).trans ((congrFun (u2_ne (show m + 5 ≠ m by omega)) _).trans (hse.trans ((congrFun (u2_ne (show m + 5 ≠ m by omega)) _).trans (congrFun (u2_ne (show m + 5 ≠ m by omega)) _)).symm))) hS2 (by rw [u2_at, if_neg (by decide), u2_at, if_pos rfl]; rfl) (by omega) (fun I9 G9 J9 o9 => ?_)
  exact ⟨rfl, hp I9 G9 J9 (OutM.from ((FrX.refl.put (Or.inr rfl)).put (Or.inl rfl)) o9)⟩
set_option maxHeartbeats 4000000 in
theorem M130_8 [NeZero p] {a1 b1 d' : Nat} {z0 z1 z2 c1 : Int32} {S0 S1 T0 T1 : TR p D h} {post : Option Value → Me → Prop} (hM : MoM M m) (hA : MoA I m p h D) (hz0 : z0 = nI 8) (hz1 : z1 = nI a1) (hz2 : z2 = nI b1) (ha : a1 < 60) (hb : b1 < 60) (hS0 : ∀ j, j < 8 → I (m + 7) (24 * a1 + 8 * 0 + j) = vE p D h S0 j) (hS1 : ∀ j, j < 8 → I (m + 7) (24 * a1 + 8 * 1 + j) = vE p D h S1 j) (hT0 : ∀ j, j < 8 → I (m + 7) (24 * b1 + 8 * 0 + j) = vE p D h T0 j) (hT1 : ∀ j, j < 8 → I (m + 7) (24 * b1 + 8 * 1 + j) = vE p D h T1 j) (hd : d + 13 ≤ d') (hp : ∀ I1 G1 J1, OutM I I1 G1 m p h 3 (Int32.ofInt 3) (nk8 p D h S0 S1 S0 S1 T0 T1) → post (some (.int (nk8 p D h S0 S1 S0 S1 T0 T1).1)) (St M (rg I1 m G1) J1)) : Ok K d' 130 [.ref m, .int z0, .int z1, .int z2, .int c1] (St M (rg I m G) J) post := by
  refine Ok.up (d := d + 13) (post := post) ?_ hd (fun _ _ h => h)
  subst hz0 hz1 hz2
  refine Ok.go (e := me_130) rfl rfl (Nat.le_of_ble_eq_true rfl) hM.c ?_
  refine Rf.go 300 [3, 45] ?_
  refine And.intro ⟨hM.c, Or.inl rfl⟩ ?_
  refine Rf.put ?_
  refine Rf.go 300 [3, 45] ?_
  have hA1 := hA.put (x := Int32.ofInt 0) (q := 17) (by decide) (by decide)
  refine And.intro (fun hb => absurd hb (by decide)) (fun _ => ?_)
  refine x_set0 (d := d) (p := p) (D := D) (h := h) (r := 0) hM (by decide) (by decide) (by have := hA1.1.2.2.2.1.1; omega) (by omega) (fun G2 J2 q2 f2 => ?_)
  refine And.intro (fun hb => absurd hb (by decide)) (fun _ => ?_)
  refine x_set0 (d := d) (p := p) (D := D) (h := h) (r := 1) hM (by decide) (by decide) (by have := hA1.1.2.2.2.1.1; omega) (by omega) (fun G3 J3 q3 f3 => ?_)
  refine And.intro (fun hb => absurd hb (by decide)) (fun _ => ?_)
  refine x_set0 (d := d) (p := p) (D := D) (h := h) (r := 2) hM (by decide) (by decide) (by have := hA1.1.2.2.2.1.1; omega) (by omega) (fun G4 J4 q4 f4 => ?_)
  refine And.intro (fun _ => ?_) (fun hb => absurd (by decide) hb)
  refine And.intro (fun _ => ?_) (fun hb => absurd (by decide) hb)
  refine And.intro (fun hb => absurd hb (by decide)) (fun _ => ?_)
  refine And.intro (fun _ => ?_) (fun hb => absurd (by decide) hb)
  refine And.intro (fun _ => ?_) (fun hb => absurd (by decide) hb)
  refine And.intro hM.c ?_
  refine Rf.put ?_
  refine Rf.go 300 [3, 45] ?_
  have hA5 := hA1.put (x := Int32.ofInt 3) (q := 16) (by decide) (by decide)
  refine And.intro (fun hb => absurd hb (by decide)) (fun _ => ⟨83, rfl, ?_⟩)
  refine x_loadE (d := d) (r := 0) (a := a1) (k := 0) (v := vE p D h S0) hM rfl rfl rfl (by decide) (by omega) (by omega) (fun j hj => (congrFun ((u2_ne (f := (u2 I m 17 (Int32.ofInt 0))) (j := 16) (v := Int32.ofInt 3) (show m + 7 ≠ m by omega)).trans (u2_ne (f := I) (j := 17) (v := Int32.ofInt 0) (show m + 7 ≠ m by omega))) _).trans (hS0 j hj)) (by omega) (fun G6 J6 q6 f6 => ?_)
  refine x_loadE (d := d) (r := 1) (a := a1) (k := 1) (v := vE p D h S1) hM rfl rfl rfl (by decide) (by omega) (by omega) (fun j hj => (congrFun ((u2_ne (f := (u2 I m 17 (Int32.ofInt 0))) (j := 16) (v := Int32.ofInt 3) (show m + 7 ≠ m by omega)).trans (u2_ne (f := I) (j := 17) (v := Int32.ofInt 0) (show m + 7 ≠ m by omega))) _).trans (hS1 j hj)) (by omega) (fun G7 J7 q7 f7 => ?_)
  refine And.intro (fun hb => absurd hb (by decide)) (fun _ => ?_)
  refine And.intro (fun hb => absurd hb (by decide)) (fun _ => ?_)
  refine M127 (d := d) (s := a1) (t := b1) hM hA5 rfl rfl rfl (by omega) (by omega) (fun j hj => (congrFun ((u2_ne (f := (u2 I m 17 (Int32.ofInt 0))) (j := 16) (v := Int32.ofInt 3) (show m + 7 ≠ m by omega)).trans (u2_ne (f := I) (j := 17) (v := Int32.ofInt 0) (show m + 7 ≠ m by omega))) _).trans (hS0 j hj)) (fun j hj => (congrFun ((u2_ne (f := (u2 I m 17 (Int32.ofInt 0))) (j := 16) (v := Int32.ofInt 3) (show m + 7 ≠ m by omega)).trans (u2_ne (f := I) (j := 17) (v := Int32.ofInt 0) (show m + 7 ≠ m by omega))) _).trans (hS1 j hj)) (fun j hj => (congrFun ((u2_ne (f := (u2 I m 17 (Int32.ofInt 0))) (j := 16) (v := Int32.ofInt 3) (show m + 7 ≠ m by omega)).trans (u2_ne (f := I) (j := 17) (v := Int32.ofInt 0) (show m + 7 ≠ m by omega))) _).trans (hT0 j hj)) (fun j hj => (congrFun ((u2_ne (f := (u2 I m 17 (Int32.ofInt 0))) (j := 16) (v := Int32.ofInt 3) (show m + 7 ≠ m by omega)).trans (u2_ne (f := I) (j := 17) (v := Int32.ofInt 0) (show m + 7 ≠ m by omega))) _).trans (hT1 j hj)) (by omega) (fun G8 J8 q8 f8 => ?_)
  have q9 := ((f8 0 (by decide) (by decide) (by decide)).trans ((f7 0 (by decide)).trans q6))
  have q10 := ((f8 1 (by decide) (by decide) (by decide)).trans q7)
  exact ⟨rfl, hp (u2 (u2 I m 17 (Int32.ofInt 0)) m 16 (Int32.ofInt 3)) G8 J8 (OutM.r3 hA5 q9 q10 q8 (by rw [u2_at, if_pos rfl]) (by rw [u2_at, if_neg (by decide), u2_at, if_pos rfl, Nat.sub_self]; rfl) ((FrX.refl.put (Or.inr rfl)).put (Or.inl rfl)))⟩
set_option maxHeartbeats 4000000 in
theorem M130_9 [NeZero p] {a1 b1 c1 d' : Nat} {z0 z1 z2 z3 : Int32} {C0 C1 S0 S1 T0 T1 : TR p D h} {post : Option Value → Me → Prop} (hM : MoM M m) (hA : MoA I m p h D) (hz0 : z0 = nI 9) (hz1 : z1 = nI a1) (hz2 : z2 = nI b1) (hz3 : z3 = nI c1) (ha : a1 < 60) (hb : b1 < 60) (hc : c1 < 60) (hC0 : ∀ j, j < 8 → I (m + 7) (24 * a1 + 8 * 0 + j) = vE p D h C0 j) (hC1 : ∀ j, j < 8 → I (m + 7) (24 * a1 + 8 * 1 + j) = vE p D h C1 j) (hS0 : ∀ j, j < 8 → I (m + 7) (24 * b1 + 8 * 0 + j) = vE p D h S0 j) (hS1 : ∀ j, j < 8 → I (m + 7) (24 * b1 + 8 * 1 + j) = vE p D h S1 j) (hT0 : ∀ j, j < 8 → I (m + 7) (24 * c1 + 8 * 0 + j) = vE p D h T0 j) (hT1 : ∀ j, j < 8 → I (m + 7) (24 * c1 + 8 * 1 + j) = vE p D h T1 j) (hd : d + 13 ≤ d') (hp : ∀ I1 G1 J1, OutM I I1 G1 m p h 3 (Int32.ofInt 3) (nk8 p D h C0 C1 S0 S1 T0 T1) → post (some (.int (nk8 p D h C0 C1 S0 S1 T0 T1).1)) (St M (rg I1 m G1) J1)) : Ok K d' 130 [.ref m, .int z0, .int z1, .int z2, .int z3] (St M (rg I m G) J) post := by
  refine Ok.up (d := d + 13) (post := post) ?_ hd (fun _ _ h => h)
  subst hz0 hz1 hz2 hz3
  refine Ok.go (e := me_130) rfl rfl (Nat.le_of_ble_eq_true rfl) hM.c ?_
  refine Rf.go 300 [3, 45] ?_
  refine And.intro ⟨hM.c, Or.inl rfl⟩ ?_
  refine Rf.put ?_
  refine Rf.go 300 [3, 45] ?_
  have hA1 := hA.put (x := Int32.ofInt 0) (q := 17) (by decide) (by decide)
  refine And.intro (fun hb => absurd hb (by decide)) (fun _ => ?_)
  refine x_set0 (d := d) (p := p) (D := D) (h := h) (r := 0) hM (by decide) (by decide) (by have := hA1.1.2.2.2.1.1; omega) (by omega) (fun G2 J2 q2 f2 => ?_)
  refine And.intro (fun hb => absurd hb (by decide)) (fun _ => ?_)
  refine x_set0 (d := d) (p := p) (D := D) (h := h) (r := 1) hM (by decide) (by decide) (by have := hA1.1.2.2.2.1.1; omega) (by omega) (fun G3 J3 q3 f3 => ?_)
  refine And.intro (fun hb => absurd hb (by decide)) (fun _ => ?_)
  refine x_set0 (d := d) (p := p) (D := D) (h := h) (r := 2) hM (by decide) (by decide) (by have := hA1.1.2.2.2.1.1; omega) (by omega) (fun G4 J4 q4 f4 => ?_)
  refine And.intro (fun _ => ?_) (fun hb => absurd (by decide) hb)
  refine And.intro (fun _ => ?_) (fun hb => absurd (by decide) hb)
  refine And.intro (fun hb => absurd hb (by decide)) (fun _ => ?_)
  refine And.intro (fun _ => ?_) (fun hb => absurd (by decide) hb)
  refine And.intro (fun hb => absurd hb (by decide)) (fun _ => ?_)
  refine And.intro (fun hb => absurd hb (by decide)) (fun _ => ?_)
  refine And.intro hM.c ?_
  refine Rf.put ?_
  refine Rf.go 300 [3, 45] ?_
  have hA5 := hA1.put (x := Int32.ofInt 3) (q := 16) (by decide) (by decide)
  refine And.intro (fun hb => absurd hb (by decide)) (fun _ => ⟨83, rfl, ?_⟩)
  refine x_loadE (d := d) (r := 0) (a := a1) (k := 0) (v := vE p D h C0) hM rfl rfl rfl (by decide) (by omega) (by omega) (fun j hj => (congrFun ((u2_ne (f := (u2 I m 17 (Int32.ofInt 0))) (j := 16) (v := Int32.ofInt 3) (show m + 7 ≠ m by omega)).trans (u2_ne (f := I) (j := 17) (v := Int32.ofInt 0) (show m + 7 ≠ m by omega))) _).trans (hC0 j hj)) (by omega) (fun G6 J6 q6 f6 => ?_)
  refine x_loadE (d := d) (r := 1) (a := a1) (k := 1) (v := vE p D h C1) hM rfl rfl rfl (by decide) (by omega) (by omega) (fun j hj => (congrFun ((u2_ne (f := (u2 I m 17 (Int32.ofInt 0))) (j := 16) (v := Int32.ofInt 3) (show m + 7 ≠ m by omega)).trans (u2_ne (f := I) (j := 17) (v := Int32.ofInt 0) (show m + 7 ≠ m by omega))) _).trans (hC1 j hj)) (by omega) (fun G7 J7 q7 f7 => ?_)
  refine And.intro (fun _ => ?_) (fun hb => absurd (by decide) hb)
  refine And.intro (fun _ => ?_) (fun hb => absurd (by decide) hb)
  refine M127 (d := d) (s := b1) (t := c1) hM hA5 rfl rfl rfl (by omega) (by omega) (fun j hj => (congrFun ((u2_ne (f := (u2 I m 17 (Int32.ofInt 0))) (j := 16) (v := Int32.ofInt 3) (show m + 7 ≠ m by omega)).trans (u2_ne (f := I) (j := 17) (v := Int32.ofInt 0) (show m + 7 ≠ m by omega))) _).trans (hS0 j hj)) (fun j hj => (congrFun ((u2_ne (f := (u2 I m 17 (Int32.ofInt 0))) (j := 16) (v := Int32.ofInt 3) (show m + 7 ≠ m by omega)).trans (u2_ne (f := I) (j := 17) (v := Int32.ofInt 0) (show m + 7 ≠ m by omega))) _).trans (hS1 j hj)) (fun j hj => (congrFun ((u2_ne (f := (u2 I m 17 (Int32.ofInt 0))) (j := 16) (v := Int32.ofInt 3) (show m + 7 ≠ m by omega)).trans (u2_ne (f := I) (j := 17) (v := Int32.ofInt 0) (show m + 7 ≠ m by omega))) _).trans (hT0 j hj)) (fun j hj => (congrFun ((u2_ne (f := (u2 I m 17 (Int32.ofInt 0))) (j := 16) (v := Int32.ofInt 3) (show m + 7 ≠ m by omega)).trans (u2_ne (f := I) (j := 17) (v := Int32.ofInt 0) (show m + 7 ≠ m by omega))) _).trans (hT1 j hj)) (by omega) (fun G8 J8 q8 f8 => ?_)
  have q9 := ((f8 0 (by decide) (by decide) (by decide)).trans ((f7 0 (by decide)).trans q6))
  have q10 := ((f8 1 (by decide) (by decide) (by decide)).trans q7)
  exact ⟨rfl, hp (u2 (u2 I m 17 (Int32.ofInt 0)) m 16 (Int32.ofInt 3)) G8 J8 (OutM.r3 hA5 q9 q10 q8 (by rw [u2_at, if_pos rfl]) (by rw [u2_at, if_neg (by decide), u2_at, if_pos rfl, Nat.sub_self]; rfl) ((FrX.refl.put (Or.inr rfl)).put (Or.inl rfl)))⟩
set_option maxHeartbeats 4000000 in
theorem M130_10 [NeZero p] {a1 b1 d' : Nat} {z0 z1 z2 c1 : Int32} {L0 L1 X Y : TR p D h} {post : Option Value → Me → Prop} (hM : MoM M m) (hA : MoA I m p h D) (hz0 : z0 = nI 10) (hz1 : z1 = nI a1) (hz2 : z2 = nI b1) (ha : a1 < 60) (hb : b1 < 60) (hL0 : ∀ j, j < 8 → I (m + 7) (24 * a1 + 8 * 0 + j) = vE p D h L0 j) (hL1 : ∀ j, j < 8 → I (m + 7) (24 * a1 + 8 * 1 + j) = vE p D h L1 j) (hX0 : ∀ j, j < 8 → I (m + 7) (24 * b1 + 8 * 0 + j) = vE p D h X j) (hY0 : ∀ j, j < 8 → I (m + 7) (24 * b1 + 8 * 1 + j) = vE p D h Y j) (hd : d + 13 ≤ d') (hp : ∀ I1 G1 J1, OutM I I1 G1 m p h 3 (Int32.ofInt 2) (lnF p D h L1 ((TI p D h).neg L0) X Y) → post (some (.int (lnF p D h L1 ((TI p D h).neg L0) X Y).1)) (St M (rg I1 m G1) J1)) : Ok K d' 130 [.ref m, .int z0, .int z1, .int z2, .int c1] (St M (rg I m G) J) post := by
  refine Ok.up (d := d + 13) (post := post) ?_ hd (fun _ _ h => h)
  subst hz0 hz1 hz2
  refine Ok.go (e := me_130) rfl rfl (Nat.le_of_ble_eq_true rfl) hM.c ?_
  refine Rf.go 300 [3, 45] ?_
  refine And.intro ⟨hM.c, Or.inl rfl⟩ ?_
  refine Rf.put ?_
  refine Rf.go 300 [3, 45] ?_
  have hA1 := hA.put (x := Int32.ofInt 0) (q := 17) (by decide) (by decide)
  refine And.intro (fun hb => absurd hb (by decide)) (fun _ => ?_)
  refine x_set0 (d := d) (p := p) (D := D) (h := h) (r := 0) hM (by decide) (by decide) (by have := hA1.1.2.2.2.1.1; omega) (by omega) (fun G2 J2 q2 f2 => ?_)
  refine And.intro (fun hb => absurd hb (by decide)) (fun _ => ?_)
  refine x_set0 (d := d) (p := p) (D := D) (h := h) (r := 1) hM (by decide) (by decide) (by have := hA1.1.2.2.2.1.1; omega) (by omega) (fun G3 J3 q3 f3 => ?_)
  refine And.intro (fun hb => absurd hb (by decide)) (fun _ => ?_)
  refine x_set0 (d := d) (p := p) (D := D) (h := h) (r := 2) hM (by decide) (by decide) (by have := hA1.1.2.2.2.1.1; omega) (by omega) (fun G4 J4 q4 f4 => ?_)
  refine And.intro (fun _ => ?_) (fun hb => absurd (by decide) hb)
  refine And.intro (fun _ => ?_) (fun hb => absurd (by decide) hb)
  refine And.intro (fun hb => absurd hb (by decide)) (fun _ => ?_)
  refine And.intro (fun _ => ?_) (fun hb => absurd (by decide) hb)
  refine And.intro (fun hb => absurd hb (by decide)) (fun _ => ?_)
  refine And.intro (fun _ => ?_) (fun hb => absurd (by decide) hb)
  refine And.intro (fun _ => ?_) (fun hb => absurd (by decide) hb)
  refine And.intro hM.c ?_
  refine Rf.put ?_
  refine Rf.go 300 [3, 45] ?_
  have hA5 := hA1.put (x := Int32.ofInt 2) (q := 16) (by decide) (by decide)
  refine And.intro (fun hb => absurd hb (by decide)) (fun _ => ⟨110, rfl, ?_⟩)
  refine And.intro (fun hb => absurd hb (by decide)) (fun _ => ?_)
  refine x_loadE (d := d) (r := 1) (a := a1) (k := 0) (v := vE p D h L0) hM rfl rfl rfl (by decide) (by omega) (by omega) (fun j hj => (congrFun ((u2_ne (f := (u2 I m 17 (Int32.ofInt 0))) (j := 16) (v := Int32.ofInt 2) (show m + 7 ≠ m by omega)).trans (u2_ne (f := I) (j := 17) (v := Int32.ofInt 0) (show m + 7 ≠ m by omega))) _).trans (hL0 j hj)) (by omega) (fun G6 J6 q6 f6 => ?_)
  refine And.intro (fun hb => absurd hb (by decide)) (fun _ => ?_)
  refine x_loadE (d := d) (r := 0) (a := a1) (k := 1) (v := vE p D h L1) hM rfl rfl rfl (by decide) (by omega) (by omega) (fun j hj => (congrFun ((u2_ne (f := (u2 I m 17 (Int32.ofInt 0))) (j := 16) (v := Int32.ofInt 2) (show m + 7 ≠ m by omega)).trans (u2_ne (f := I) (j := 17) (v := Int32.ofInt 0) (show m + 7 ≠ m by omega))) _).trans (hL1 j hj)) (by omega) (fun G7 J7 q7 f7 => ?_)
  refine And.intro (fun hb => absurd hb (by decide)) (fun _ => ?_)
  refine x_turn (d := d) (r := 0) (a := 0) hM rfl rfl (by decide) (by decide) hA5.1.1 hA5.1.2.2.2.1.2 q7 (by omega) (fun G8 J8 q8 f8 => ?_)
  have q9 := ((f8 1 (by decide)).trans ((f7 1 (by decide)).trans q6))
  rw [show L0 = ((TI p D h).neg ((TI p D h).neg L0)) from @ng2 (TR p D h) (TI p D h) L0] at q9
  refine x_loadE (d := d) (r := 7) (a := b1) (k := 0) (v := vE p D h X) hM rfl rfl rfl (by decide) (by omega) (by omega) (fun j hj => (congrFun ((u2_ne (f := (u2 I m 17 (Int32.ofInt 0))) (j := 16) (v := Int32.ofInt 2) (show m + 7 ≠ m by omega)).trans (u2_ne (f := I) (j := 17) (v := Int32.ofInt 0) (show m + 7 ≠ m by omega))) _).trans (hX0 j hj)) (by omega) (fun G10 J10 q10 f10 => ?_)
  refine x_loadE (d := d) (r := 8) (a := b1) (k := 1) (v := vE p D h Y) hM rfl rfl rfl (by decide) (by omega) (by omega) (fun j hj => (congrFun ((u2_ne (f := (u2 I m 17 (Int32.ofInt 0))) (j := 16) (v := Int32.ofInt 2) (show m + 7 ≠ m by omega)).trans (u2_ne (f := I) (j := 17) (v := Int32.ofInt 0) (show m + 7 ≠ m by omega))) _).trans (hY0 j hj)) (by omega) (fun G11 J11 q11 f11 => ?_)
  have q12 := ((f11 0 (by decide)).trans ((f10 0 (by decide)).trans q8))
  have q13 := ((f11 1 (by decide)).trans ((f10 1 (by decide)).trans q9))
  have q14 := ((f11 7 (by decide)).trans q10)
  refine M126 (d := d) hM hA5 rfl rfl q12 q13 q14 q11 (by omega) (fun G15 J15 q15a q15b q15c f15 => ?_)
  have hA16 := hA5.put (x := Int32.ofInt 2) (q := 16) (by decide) (by decide)
  have hl := ln_neg (A := L1) (B := ((TI p D h).neg L0)) (X := X) (Y := Y) hA16.2.2.2.1 hA16.2.2.2.2 hA16.2.2.1
  rw [hl.1] at q15a
  rw [hl.2.1] at q15b
  rw [hl.2.2] at q15c
  exact ⟨rfl, hp (u2 (u2 (u2 I m 17 (Int32.ofInt 0)) m 16 (Int32.ofInt 2)) m 16 (Int32.ofInt 2)) G15 J15 (OutM.r3 hA16 q15a q15b q15c (by rw [u2_at, if_pos rfl]) (by rw [u2_at, if_neg (by decide), u2_at, if_neg (by decide), u2_at, if_pos rfl, Nat.sub_self]; rfl) (((FrX.refl.put (Or.inr rfl)).put (Or.inl rfl)).put (Or.inl rfl)))⟩
set_option maxHeartbeats 4000000 in
theorem M130_11 [NeZero p] {a1 b1 d' : Nat} {z0 z1 z2 c1 : Int32} {L0 L1 X Y : TR p D h} {post : Option Value → Me → Prop} (hM : MoM M m) (hA : MoA I m p h D) (hz0 : z0 = nI 11) (hz1 : z1 = nI a1) (hz2 : z2 = nI b1) (ha : a1 < 60) (hb : b1 < 60) (hL0 : ∀ j, j < 8 → I (m + 7) (24 * a1 + 8 * 0 + j) = vE p D h L0 j) (hL1 : ∀ j, j < 8 → I (m + 7) (24 * a1 + 8 * 1 + j) = vE p D h L1 j) (hX0 : ∀ j, j < 8 → I (m + 7) (24 * b1 + 8 * 0 + j) = vE p D h X j) (hY0 : ∀ j, j < 8 → I (m + 7) (24 * b1 + 8 * 1 + j) = vE p D h Y j) (hd : d + 13 ≤ d') (hp : ∀ I1 G1 J1, OutM I I1 G1 m p h 3 (Int32.ofInt 2) (lnF p D h L0 L1 X Y) → post (some (.int (lnF p D h L0 L1 X Y).1)) (St M (rg I1 m G1) J1)) : Ok K d' 130 [.ref m, .int z0, .int z1, .int z2, .int c1] (St M (rg I m G) J) post := by
  refine Ok.up (d := d + 13) (post := post) ?_ hd (fun _ _ h => h)
  subst hz0 hz1 hz2
  refine Ok.go (e := me_130) rfl rfl (Nat.le_of_ble_eq_true rfl) hM.c ?_
  refine Rf.go 300 [3, 45] ?_
  refine And.intro ⟨hM.c, Or.inl rfl⟩ ?_
  refine Rf.put ?_
  refine Rf.go 300 [3, 45] ?_
  have hA1 := hA.put (x := Int32.ofInt 0) (q := 17) (by decide) (by decide)
  refine And.intro (fun hb => absurd hb (by decide)) (fun _ => ?_)
  refine x_set0 (d := d) (p := p) (D := D) (h := h) (r := 0) hM (by decide) (by decide) (by have := hA1.1.2.2.2.1.1; omega) (by omega) (fun G2 J2 q2 f2 => ?_)
  refine And.intro (fun hb => absurd hb (by decide)) (fun _ => ?_)
  refine x_set0 (d := d) (p := p) (D := D) (h := h) (r := 1) hM (by decide) (by decide) (by have := hA1.1.2.2.2.1.1; omega) (by omega) (fun G3 J3 q3 f3 => ?_)
  refine And.intro (fun hb => absurd hb (by decide)) (fun _ => ?_)
  refine x_set0 (d := d) (p := p) (D := D) (h := h) (r := 2) hM (by decide) (by decide) (by have := hA1.1.2.2.2.1.1; omega) (by omega) (fun G4 J4 q4 f4 => ?_)
  refine And.intro (fun _ => ?_) (fun hb => absurd (by decide) hb)
  refine And.intro (fun _ => ?_) (fun hb => absurd (by decide) hb)
  refine And.intro (fun hb => absurd hb (by decide)) (fun _ => ?_)
  refine And.intro (fun _ => ?_) (fun hb => absurd (by decide) hb)
  refine And.intro (fun hb => absurd hb (by decide)) (fun _ => ?_)
  refine And.intro (fun _ => ?_) (fun hb => absurd (by decide) hb)
  refine And.intro (fun _ => ?_) (fun hb => absurd (by decide) hb)
  refine And.intro hM.c ?_
  refine Rf.put ?_
  refine Rf.go 300 [3, 45] ?_
  have hA5 := hA1.put (x := Int32.ofInt 2) (q := 16) (by decide) (by decide)
  refine And.intro (fun hb => absurd hb (by decide)) (fun _ => ⟨110, rfl, ?_⟩)
  refine And.intro (fun _ => ?_) (fun hb => absurd (by decide) hb)
  refine x_loadE (d := d) (r := 0) (a := a1) (k := 0) (v := vE p D h L0) hM rfl rfl rfl (by decide) (by omega) (by omega) (fun j hj => (congrFun ((u2_ne (f := (u2 I m 17 (Int32.ofInt 0))) (j := 16) (v := Int32.ofInt 2) (show m + 7 ≠ m by omega)).trans (u2_ne (f := I) (j := 17) (v := Int32.ofInt 0) (show m + 7 ≠ m by omega))) _).trans (hL0 j hj)) (by omega) (fun G6 J6 q6 f6 => ?_)
  refine And.intro (fun _ => ?_) (fun hb => absurd (by decide) hb)
  refine x_loadE (d := d) (r := 1) (a := a1) (k := 1) (v := vE p D h L1) hM rfl rfl rfl (by decide) (by omega) (by omega) (fun j hj => (congrFun ((u2_ne (f := (u2 I m 17 (Int32.ofInt 0))) (j := 16) (v := Int32.ofInt 2) (show m + 7 ≠ m by omega)).trans (u2_ne (f := I) (j := 17) (v := Int32.ofInt 0) (show m + 7 ≠ m by omega))) _).trans (hL1 j hj)) (by omega) (fun G7 J7 q7 f7 => ?_)
  refine And.intro (fun _ => ?_) (fun hb => absurd (by decide) hb)
  refine x_loadE (d := d) (r := 7) (a := b1) (k := 0) (v := vE p D h X) hM rfl rfl rfl (by decide) (by omega) (by omega) (fun j hj => (congrFun ((u2_ne (f := (u2 I m 17 (Int32.ofInt 0))) (j := 16) (v := Int32.ofInt 2) (show m + 7 ≠ m by omega)).trans (u2_ne (f := I) (j := 17) (v := Int32.ofInt 0) (show m + 7 ≠ m by omega))) _).trans (hX0 j hj)) (by omega) (fun G8 J8 q8 f8 => ?_)
  refine x_loadE (d := d) (r := 8) (a := b1) (k := 1) (v := vE p D h Y) hM rfl rfl rfl (by decide) (by omega) (by omega) (fun j hj => (congrFun ((u2_ne (f := (u2 I m 17 (Int32.ofInt 0))) (j := 16) (v := Int32.ofInt 2) (show m + 7 ≠ m by omega)).trans (u2_ne (f := I) (j := 17) (v := Int32.ofInt 0) (show m + 7 ≠ m by omega))) _).trans (hY0 j hj)) (by omega) (fun G9 J9 q9 f9 => ?_)
  have q10 := ((f9 0 (by decide)).trans ((f8 0 (by decide)).trans ((f7 0 (by decide)).trans q6)))
  have q11 := ((f9 1 (by decide)).trans ((f8 1 (by decide)).trans q7))
  have q12 := ((f9 7 (by decide)).trans q8)
  refine M126 (d := d) hM hA5 rfl rfl q10 q11 q12 q9 (by omega) (fun G13 J13 q13a q13b q13c f13 => ?_)
  have hA14 := hA5.put (x := Int32.ofInt 2) (q := 16) (by decide) (by decide)
  exact ⟨rfl, hp (u2 (u2 (u2 I m 17 (Int32.ofInt 0)) m 16 (Int32.ofInt 2)) m 16 (Int32.ofInt 2)) G13 J13 (OutM.r3 hA14 q13a q13b q13c (by rw [u2_at, if_pos rfl]) (by rw [u2_at, if_neg (by decide), u2_at, if_neg (by decide), u2_at, if_pos rfl, Nat.sub_self]; rfl) (((FrX.refl.put (Or.inr rfl)).put (Or.inl rfl)).put (Or.inl rfl)))⟩
set_option maxHeartbeats 4000000 in
theorem M130_12_220 [NeZero p] {g k d' : Nat} {z0 z1 z2 z3 : Int32} {P0 P1 P2 Q0 Q1 Q2 : TR p D h} {post : Option Value → Me → Prop} (hM : MoM M m) (hA : MoA I m p h D) (hz0 : z0 = nI 12) (hz1 : z1 = nI g) (hz2 : z2 = nI k) (hz3 : z3 = nI 0) (hg : g < 60) (hk : k < 60) (hP0 : ∀ j, j < 8 → I (m + 7) (24 * g + 8 * 0 + j) = vE p D h P0 j) (hP1 : ∀ j, j < 8 → I (m + 7) (24 * g + 8 * 1 + j) = vE p D h P1 j) (hP2 : ∀ j, j < 8 → I (m + 7) (24 * g + 8 * 2 + j) = vE p D h P2 j) (hQ0 : ∀ j, j < 8 → I (m + 7) (24 * k + 8 * 0 + j) = vE p D h Q0 j) (hQ1 : ∀ j, j < 8 → I (m + 7) (24 * k + 8 * 1 + j) = vE p D h Q1 j) (hQ2 : ∀ j, j < 8 → I (m + 7) (24 * k + 8 * 2 + j) = vE p D h Q2 j) (so_g : I (m + 5) g = nI 2) (so_k : I (m + 5) k = nI 2) (hcr : ((TI p D h).sub ((TI p D h).mul P0 Q1) ((TI p D h).mul P1 Q0)) = ((TI p D h).ofNat 0).ofNat ↔ (P0 = Q0 ∧ P1 = Q1)) (hd : d + 13 ≤ d') (hp : ∀ I1 G1 J1, OutM I I1 G1 m p h 2 (Int32.ofInt 1) (mlF p D h P0 P1 P2 Q0 Q1 Q2 0) → post (some (.int (mlF p D h P0 P1 P2 Q0 Q1 Q2 0).1)) (St M (rg I1 m G1) J1)) : Ok K d' 130 [.ref m, .int z0, .int z1, .int z2, .int z3] (St M (rg I m G) J) post := by
  refine Ok.up (d := d + 13) (post := post) ?_ hd (fun _ _ h => h)
  subst hz0 hz1 hz2 hz3
  refine Ok.go (e := me_130) rfl rfl (Nat.le_of_ble_eq_true rfl) hM.c ?_
  refine Rf.go 300 [3, 45] ?_
  refine And.intro ⟨hM.c, Or.inl rfl⟩ ?_
  refine Rf.put ?_
  refine Rf.go 300 [3, 45] ?_
  have hA1 := hA.put (x := Int32.ofInt 0) (q := 17) (by decide) (by decide)
  refine And.intro (fun hb => absurd hb (by decide)) (fun _ => ?_)
  refine x_set0 (d := d) (p := p) (D := D) (h := h) (r := 0) hM (by decide) (by decide) (by have := hA1.1.2.2.2.1.1; omega) (by omega) (fun G2 J2 q2 f2 => ?_)
  refine And.intro (fun hb => absurd hb (by decide)) (fun _ => ?_)
  refine x_set0 (d := d) (p := p) (D := D) (h := h) (r := 1) hM (by decide) (by decide) (by have := hA1.1.2.2.2.1.1; omega) (by omega) (fun G3 J3 q3 f3 => ?_)
  refine And.intro (fun hb => absurd hb (by decide)) (fun _ => ?_)
  refine x_set0 (d := d) (p := p) (D := D) (h := h) (r := 2) hM (by decide) (by decide) (by have := hA1.1.2.2.2.1.1; omega) (by omega) (fun G4 J4 q4 f4 => ?_)
  refine And.intro (fun _ => ?_) (fun hb => absurd (by decide) hb)
  refine And.intro (fun _ => ?_) (fun hb => absurd (by decide) hb)
  refine And.intro (fun hb => absurd hb (by decide)) (fun _ => ?_)
  refine And.intro (fun hb => absurd hb (by decide)) (fun _ => ?_)
  refine And.intro hM.c ?_
  refine Rf.put ?_
  refine Rf.go 300 [3, 45] ?_
  have hA5 := hA1.put (x := Int32.ofInt 1) (q := 16) (by decide) (by decide)
  refine And.intro (fun hb => absurd hb (by decide)) (fun _ => ⟨153, rfl, ?_⟩)
  refine M133_220 (d := d) (g := g) (k := k) hM hA5 rfl rfl rfl (by omega) (by omega) (fun j hj => (congrFun ((u2_ne (f := (u2 I m 17 (Int32.ofInt 0))) (j := 16) (v := Int32.ofInt 1) (show m + 7 ≠ m by omega)).trans (u2_ne (f := I) (j := 17) (v := Int32.ofInt 0) (show m + 7 ≠ m by omega))) _).trans (hP0 j hj)) (fun j hj => (congrFun ((u2_ne (f := (u2 I m 17 (Int32.ofInt 0))) (j := 16) (v := Int32.ofInt 1) (show m + 7 ≠ m by omega)).trans (u2_ne (f := I) (j := 17) (v := Int32.ofInt 0) (show m + 7 ≠ m by omega))) _).trans (hP1 j hj)) (fun j hj => (congrFun ((u2_ne (f := (u2 I m 17 (Int32.ofInt 0))) (j := 16) (v := Int32.ofInt 1) (show m + 7 ≠ m by omega)).trans (u2_ne (f := I) (j := 17) (v := Int32.ofInt 0) (show m + 7 ≠ m by omega))) _).trans (hP2 j hj)) (fun j hj => (congrFun ((u2_ne (f := (u2 I m 17 (Int32.ofInt 0))) (j := 16) (v := Int32.ofInt 1) (show m + 7 ≠ m by omega)).trans (u2_ne (f := I) (j := 17) (v := Int32.ofInt 0) (show m + 7 ≠ m by omega))) _).trans (hQ0 j hj)) (fun j hj => (congrFun ((u2_ne (f := (u2 I m 17 (Int32.ofInt 0))) (j := 16) (v := Int32.ofInt 1) (show m + 7 ≠ m by omega)).trans (u2_ne (f := I) (j := 17) (v := Int32.ofInt 0) (show m + 7 ≠ m by omega))) _).trans (hQ1 j hj)) (fun j hj => (congrFun ((u2_ne (f := (u2 I m 17 (Int32.ofInt 0))) (j := 16) (v := Int32.ofInt 1) (show m + 7 ≠ m by omega)).trans (u2_ne (f := I) (j := 17) (v := Int32.ofInt 0) (show m + 7 ≠ m by omega))) _).trans (hQ2 j hj)) ((congrFun (u2_ne (show m + 5 ≠ m by omega)) _).trans ((congrFun (u2_ne (show m + 5 ≠ m by omega)) _).trans so_g)) ((congrFun (u2_ne (show m + 5 ≠ m by omega)) _).trans ((congrFun (u2_ne (show m + 5 ≠ m by omega)) _).trans so_k)) (by rw [u2_at, if_neg (by decide), u2_at, if_pos rfl]; rfl) hcr (by omega) (fun I9 G9 J9 o9 => ?_)
  exact ⟨rfl, hp I9 G9 J9 (OutM.from ((FrX.refl.put (Or.inr rfl)).put (Or.inl rfl)) o9)⟩
set_option maxHeartbeats 4000000 in
theorem M130_12_221 [NeZero p] {g k d' : Nat} {z0 z1 z2 z3 : Int32} {P0 P1 P2 Q0 Q1 Q2 : TR p D h} {post : Option Value → Me → Prop} (hM : MoM M m) (hA : MoA I m p h D) (hz0 : z0 = nI 12) (hz1 : z1 = nI g) (hz2 : z2 = nI k) (hz3 : z3 = nI 1) (hg : g < 60) (hk : k < 60) (hP0 : ∀ j, j < 8 → I (m + 7) (24 * g + 8 * 0 + j) = vE p D h P0 j) (hP1 : ∀ j, j < 8 → I (m + 7) (24 * g + 8 * 1 + j) = vE p D h P1 j) (hP2 : ∀ j, j < 8 → I (m + 7) (24 * g + 8 * 2 + j) = vE p D h P2 j) (hQ0 : ∀ j, j < 8 → I (m + 7) (24 * k + 8 * 0 + j) = vE p D h Q0 j) (hQ1 : ∀ j, j < 8 → I (m + 7) (24 * k + 8 * 1 + j) = vE p D h Q1 j) (hQ2 : ∀ j, j < 8 → I (m + 7) (24 * k + 8 * 2 + j) = vE p D h Q2 j) (so_g : I (m + 5) g = nI 2) (so_k : I (m + 5) k = nI 2) (hcr : ((TI p D h).sub ((TI p D h).mul P0 Q1) ((TI p D h).mul P1 Q0)) = ((TI p D h).ofNat 0).ofNat ↔ (P0 = Q0 ∧ P1 = Q1)) (hd : d + 13 ≤ d') (hp : ∀ I1 G1 J1, OutM I I1 G1 m p h 2 (Int32.ofInt 1) (mlF p D h P0 P1 P2 Q0 Q1 Q2 1) → post (some (.int (mlF p D h P0 P1 P2 Q0 Q1 Q2 1).1)) (St M (rg I1 m G1) J1)) : Ok K d' 130 [.ref m, .int z0, .int z1, .int z2, .int z3] (St M (rg I m G) J) post := by
  refine Ok.up (d := d + 13) (post := post) ?_ hd (fun _ _ h => h)
  subst hz0 hz1 hz2 hz3
  refine Ok.go (e := me_130) rfl rfl (Nat.le_of_ble_eq_true rfl) hM.c ?_
  refine Rf.go 300 [3, 45] ?_
  refine And.intro ⟨hM.c, Or.inl rfl⟩ ?_
  refine Rf.put ?_
  refine Rf.go 300 [3, 45] ?_
  have hA1 := hA.put (x := Int32.ofInt 0) (q := 17) (by decide) (by decide)
  refine And.intro (fun hb => absurd hb (by decide)) (fun _ => ?_)
  refine x_set0 (d := d) (p := p) (D := D) (h := h) (r := 0) hM (by decide) (by decide) (by have := hA1.1.2.2.2.1.1; omega) (by omega) (fun G2 J2 q2 f2 => ?_)
  refine And.intro (fun hb => absurd hb (by decide)) (fun _ => ?_)
  refine x_set0 (d := d) (p := p) (D := D) (h := h) (r := 1) hM (by decide) (by decide) (by have := hA1.1.2.2.2.1.1; omega) (by omega) (fun G3 J3 q3 f3 => ?_)
  refine And.intro (fun hb => absurd hb (by decide)) (fun _ => ?_)
  refine x_set0 (d := d) (p := p) (D := D) (h := h) (r := 2) hM (by decide) (by decide) (by have := hA1.1.2.2.2.1.1; omega) (by omega) (fun G4 J4 q4 f4 => ?_)
  refine And.intro (fun _ => ?_) (fun hb => absurd (by decide) hb)
  refine And.intro (fun _ => ?_) (fun hb => absurd (by decide) hb)
  refine And.intro (fun hb => absurd hb (by decide)) (fun _ => ?_)
  refine And.intro (fun hb => absurd hb (by decide)) (fun _ => ?_)
  refine And.intro hM.c ?_
  refine Rf.put ?_
  refine Rf.go 300 [3, 45] ?_
  have hA5 := hA1.put (x := Int32.ofInt 1) (q := 16) (by decide) (by decide)
  refine And.intro (fun hb => absurd hb (by decide)) (fun _ => ⟨153, rfl, ?_⟩)
  refine M133_221 (d := d) (g := g) (k := k) hM hA5 rfl rfl rfl (by omega) (by omega) (fun j hj => (congrFun ((u2_ne (f := (u2 I m 17 (Int32.ofInt 0))) (j := 16) (v := Int32.ofInt 1) (show m + 7 ≠ m by omega)).trans (u2_ne (f := I) (j := 17) (v := Int32.ofInt 0) (show m + 7 ≠ m by omega))) _).trans (hP0 j hj)) (fun j hj => (congrFun ((u2_ne (f := (u2 I m 17 (Int32.ofInt 0))) (j := 16) (v := Int32.ofInt 1) (show m + 7 ≠ m by omega)).trans (u2_ne (f := I) (j := 17) (v := Int32.ofInt 0) (show m + 7 ≠ m by omega))) _).trans (hP1 j hj)) (fun j hj => (congrFun ((u2_ne (f := (u2 I m 17 (Int32.ofInt 0))) (j := 16) (v := Int32.ofInt 1) (show m + 7 ≠ m by omega)).trans (u2_ne (f := I) (j := 17) (v := Int32.ofInt 0) (show m + 7 ≠ m by omega))) _).trans (hP2 j hj)) (fun j hj => (congrFun ((u2_ne (f := (u2 I m 17 (Int32.ofInt 0))) (j := 16) (v := Int32.ofInt 1) (show m + 7 ≠ m by omega)).trans (u2_ne (f := I) (j := 17) (v := Int32.ofInt 0) (show m + 7 ≠ m by omega))) _).trans (hQ0 j hj)) (fun j hj => (congrFun ((u2_ne (f := (u2 I m 17 (Int32.ofInt 0))) (j := 16) (v := Int32.ofInt 1) (show m + 7 ≠ m by omega)).trans (u2_ne (f := I) (j := 17) (v := Int32.ofInt 0) (show m + 7 ≠ m by omega))) _).trans (hQ1 j hj)) (fun j hj => (congrFun ((u2_ne (f := (u2 I m 17 (Int32.ofInt 0))) (j := 16) (v := Int32.ofInt 1) (show m + 7 ≠ m by omega)).trans (u2_ne (f := I) (j := 17) (v := Int32.ofInt 0) (show m + 7 ≠ m by omega))) _).trans (hQ2 j hj)) ((congrFun (u2_ne (show m + 5 ≠ m by omega)) _).trans ((congrFun (u2_ne (show m + 5 ≠ m by omega)) _).trans so_g)) ((congrFun (u2_ne (show m + 5 ≠ m by omega)) _).trans ((congrFun (u2_ne (show m + 5 ≠ m by omega)) _).trans so_k)) (by rw [u2_at, if_neg (by decide), u2_at, if_pos rfl]; rfl) hcr (by omega) (fun I9 G9 J9 o9 => ?_)
  exact ⟨rfl, hp I9 G9 J9 (OutM.from ((FrX.refl.put (Or.inr rfl)).put (Or.inl rfl)) o9)⟩
set_option maxHeartbeats 4000000 in
theorem M130_12_230 [NeZero p] {g k d' : Nat} {z0 z1 z2 z3 : Int32} {P0 P1 P2 Q0 Q1 Q2 : TR p D h} {post : Option Value → Me → Prop} (hM : MoM M m) (hA : MoA I m p h D) (hz0 : z0 = nI 12) (hz1 : z1 = nI g) (hz2 : z2 = nI k) (hz3 : z3 = nI 0) (hg : g < 60) (hk : k < 60) (hP0 : ∀ j, j < 8 → I (m + 7) (24 * g + 8 * 0 + j) = vE p D h P0 j) (hP1 : ∀ j, j < 8 → I (m + 7) (24 * g + 8 * 1 + j) = vE p D h P1 j) (hP2 : ∀ j, j < 8 → I (m + 7) (24 * g + 8 * 2 + j) = vE p D h P2 j) (hQ0 : ∀ j, j < 8 → I (m + 7) (24 * k + 8 * 0 + j) = vE p D h Q0 j) (hQ1 : ∀ j, j < 8 → I (m + 7) (24 * k + 8 * 1 + j) = vE p D h Q1 j) (hQ2 : ∀ j, j < 8 → I (m + 7) (24 * k + 8 * 2 + j) = vE p D h Q2 j) (so_g : I (m + 5) g = nI 2) (so_k : I (m + 5) k = nI 3) (hd : d + 13 ≤ d') (hp : ∀ I1 G1 J1, OutM I I1 G1 m p h 2 (Int32.ofInt 1) (mtF p D h P0 P1 P2 Q0 Q1 Q2 0) → post (some (.int (mtF p D h P0 P1 P2 Q0 Q1 Q2 0).1)) (St M (rg I1 m G1) J1)) : Ok K d' 130 [.ref m, .int z0, .int z1, .int z2, .int z3] (St M (rg I m G) J) post := by
  refine Ok.up (d := d + 13) (post := post) ?_ hd (fun _ _ h => h)
  subst hz0 hz1 hz2 hz3
  refine Ok.go (e := me_130) rfl rfl (Nat.le_of_ble_eq_true rfl) hM.c ?_
  refine Rf.go 300 [3, 45] ?_
  refine And.intro ⟨hM.c, Or.inl rfl⟩ ?_
  refine Rf.put ?_
  refine Rf.go 300 [3, 45] ?_
  have hA1 := hA.put (x := Int32.ofInt 0) (q := 17) (by decide) (by decide)
  refine And.intro (fun hb => absurd hb (by decide)) (fun _ => ?_)
  refine x_set0 (d := d) (p := p) (D := D) (h := h) (r := 0) hM (by decide) (by decide) (by have := hA1.1.2.2.2.1.1; omega) (by omega) (fun G2 J2 q2 f2 => ?_)
  refine And.intro (fun hb => absurd hb (by decide)) (fun _ => ?_)
  refine x_set0 (d := d) (p := p) (D := D) (h := h) (r := 1) hM (by decide) (by decide) (by have := hA1.1.2.2.2.1.1; omega) (by omega) (fun G3 J3 q3 f3 => ?_)
  refine And.intro (fun hb => absurd hb (by decide)) (fun _ => ?_)
  refine x_set0 (d := d) (p := p) (D := D) (h := h) (r := 2) hM (by decide) (by decide) (by have := hA1.1.2.2.2.1.1; omega) (by omega) (fun G4 J4 q4 f4 => ?_)
  refine And.intro (fun _ => ?_) (fun hb => absurd (by decide) hb)
  refine And.intro (fun _ => ?_) (fun hb => absurd (by decide) hb)
  refine And.intro (fun hb => absurd hb (by decide)) (fun _ => ?_)
  refine And.intro (fun hb => absurd hb (by decide)) (fun _ => ?_)
  refine And.intro hM.c ?_
  refine Rf.put ?_
  refine Rf.go 300 [3, 45] ?_
  have hA5 := hA1.put (x := Int32.ofInt 1) (q := 16) (by decide) (by decide)
  refine And.intro (fun hb => absurd hb (by decide)) (fun _ => ⟨153, rfl, ?_⟩)
  refine M133_230 (d := d) (g := g) (k := k) hM hA5 rfl rfl rfl (by omega) (by omega) (fun j hj => (congrFun ((u2_ne (f := (u2 I m 17 (Int32.ofInt 0))) (j := 16) (v := Int32.ofInt 1) (show m + 7 ≠ m by omega)).trans (u2_ne (f := I) (j := 17) (v := Int32.ofInt 0) (show m + 7 ≠ m by omega))) _).trans (hP0 j hj)) (fun j hj => (congrFun ((u2_ne (f := (u2 I m 17 (Int32.ofInt 0))) (j := 16) (v := Int32.ofInt 1) (show m + 7 ≠ m by omega)).trans (u2_ne (f := I) (j := 17) (v := Int32.ofInt 0) (show m + 7 ≠ m by omega))) _).trans (hP1 j hj)) (fun j hj => (congrFun ((u2_ne (f := (u2 I m 17 (Int32.ofInt 0))) (j := 16) (v := Int32.ofInt 1) (show m + 7 ≠ m by omega)).trans (u2_ne (f := I) (j := 17) (v := Int32.ofInt 0) (show m + 7 ≠ m by omega))) _).trans (hP2 j hj)) (fun j hj => (congrFun ((u2_ne (f := (u2 I m 17 (Int32.ofInt 0))) (j := 16) (v := Int32.ofInt 1) (show m + 7 ≠ m by omega)).trans (u2_ne (f := I) (j := 17) (v := Int32.ofInt 0) (show m + 7 ≠ m by omega))) _).trans (hQ0 j hj)) (fun j hj => (congrFun ((u2_ne (f := (u2 I m 17 (Int32.ofInt 0))) (j := 16) (v := Int32.ofInt 1) (show m + 7 ≠ m by omega)).trans (u2_ne (f := I) (j := 17) (v := Int32.ofInt 0) (show m + 7 ≠ m by omega))) _).trans (hQ1 j hj)) (fun j hj => (congrFun ((u2_ne (f := (u2 I m 17 (Int32.ofInt 0))) (j := 16) (v := Int32.ofInt 1) (show m + 7 ≠ m by omega)).trans (u2_ne (f := I) (j := 17) (v := Int32.ofInt 0) (show m + 7 ≠ m by omega))) _).trans (hQ2 j hj)) ((congrFun (u2_ne (show m + 5 ≠ m by omega)) _).trans ((congrFun (u2_ne (show m + 5 ≠ m by omega)) _).trans so_g)) ((congrFun (u2_ne (show m + 5 ≠ m by omega)) _).trans ((congrFun (u2_ne (show m + 5 ≠ m by omega)) _).trans so_k)) (by rw [u2_at, if_neg (by decide), u2_at, if_pos rfl]; rfl) (by omega) (fun I9 G9 J9 o9 => ?_)
  exact ⟨rfl, hp I9 G9 J9 (OutM.from ((FrX.refl.put (Or.inr rfl)).put (Or.inl rfl)) o9)⟩
set_option maxHeartbeats 4000000 in
theorem M130_12_231 [NeZero p] {g k d' : Nat} {z0 z1 z2 z3 : Int32} {P0 P1 P2 Q0 Q1 Q2 : TR p D h} {post : Option Value → Me → Prop} (hM : MoM M m) (hA : MoA I m p h D) (hz0 : z0 = nI 12) (hz1 : z1 = nI g) (hz2 : z2 = nI k) (hz3 : z3 = nI 1) (hg : g < 60) (hk : k < 60) (hP0 : ∀ j, j < 8 → I (m + 7) (24 * g + 8 * 0 + j) = vE p D h P0 j) (hP1 : ∀ j, j < 8 → I (m + 7) (24 * g + 8 * 1 + j) = vE p D h P1 j) (hP2 : ∀ j, j < 8 → I (m + 7) (24 * g + 8 * 2 + j) = vE p D h P2 j) (hQ0 : ∀ j, j < 8 → I (m + 7) (24 * k + 8 * 0 + j) = vE p D h Q0 j) (hQ1 : ∀ j, j < 8 → I (m + 7) (24 * k + 8 * 1 + j) = vE p D h Q1 j) (hQ2 : ∀ j, j < 8 → I (m + 7) (24 * k + 8 * 2 + j) = vE p D h Q2 j) (so_g : I (m + 5) g = nI 2) (so_k : I (m + 5) k = nI 3) (hd : d + 13 ≤ d') (hp : ∀ I1 G1 J1, OutM I I1 G1 m p h 2 (Int32.ofInt 1) (mtF p D h P0 P1 P2 Q0 Q1 Q2 1) → post (some (.int (mtF p D h P0 P1 P2 Q0 Q1 Q2 1).1)) (St M (rg I1 m G1) J1)) : Ok K d' 130 [.ref m, .int z0, .int z1, .int z2, .int z3] (St M (rg I m G) J) post := by
  refine Ok.up (d := d + 13) (post := post) ?_ hd (fun _ _ h => h)
  subst hz0 hz1 hz2 hz3
  refine Ok.go (e := me_130) rfl rfl (Nat.le_of_ble_eq_true rfl) hM.c ?_
  refine Rf.go 300 [3, 45] ?_
  refine And.intro ⟨hM.c, Or.inl rfl⟩ ?_
  refine Rf.put ?_
  refine Rf.go 300 [3, 45] ?_
  have hA1 := hA.put (x := Int32.ofInt 0) (q := 17) (by decide) (by decide)
  refine And.intro (fun hb => absurd hb (by decide)) (fun _ => ?_)
  refine x_set0 (d := d) (p := p) (D := D) (h := h) (r := 0) hM (by decide) (by decide) (by have := hA1.1.2.2.2.1.1; omega) (by omega) (fun G2 J2 q2 f2 => ?_)
  refine And.intro (fun hb => absurd hb (by decide)) (fun _ => ?_)
  refine x_set0 (d := d) (p := p) (D := D) (h := h) (r := 1) hM (by decide) (by decide) (by have := hA1.1.2.2.2.1.1; omega) (by omega) (fun G3 J3 q3 f3 => ?_)
  refine And.intro (fun hb => absurd hb (by decide)) (fun _ => ?_)
  refine x_set0 (d := d) (p := p) (D := D) (h := h) (r := 2) hM (by decide) (by decide) (by have := hA1.1.2.2.2.1.1; omega) (by omega) (fun G4 J4 q4 f4 => ?_)
  refine And.intro (fun _ => ?_) (fun hb => absurd (by decide) hb)
  refine And.intro (fun _ => ?_) (fun hb => absurd (by decide) hb)
  refine And.intro (fun hb => absurd hb (by decide)) (fun _ => ?_)
  refine And.intro (fun hb => absurd hb (by decide)) (fun _ => ?_)
  refine And.intro hM.c ?_
  refine Rf.put ?_
  refine Rf.go 300 [3, 45] ?_
  have hA5 := hA1.put (x := Int32.ofInt 1) (q := 16) (by decide) (by decide)
  refine And.intro (fun hb => absurd hb (by decide)) (fun _ => ⟨153, rfl, ?_⟩)
  refine M133_231 (d := d) (g := g) (k := k) hM hA5 rfl rfl rfl (by omega) (by omega) (fun j hj => (congrFun ((u2_ne (f := (u2 I m 17 (Int32.ofInt 0))) (j := 16) (v := Int32.ofInt 1) (show m + 7 ≠ m by omega)).trans (u2_ne (f := I) (j := 17) (v := Int32.ofInt 0) (show m + 7 ≠ m by omega))) _).trans (hP0 j hj)) (fun j hj => (congrFun ((u2_ne (f := (u2 I m 17 (Int32.ofInt 0))) (j := 16) (v := Int32.ofInt 1) (show m + 7 ≠ m by omega)).trans (u2_ne (f := I) (j := 17) (v := Int32.ofInt 0) (show m + 7 ≠ m by omega))) _).trans (hP1 j hj)) (fun j hj => (congrFun ((u2_ne (f := (u2 I m 17 (Int32.ofInt 0))) (j := 16) (v := Int32.ofInt 1) (show m + 7 ≠ m by omega)).trans (u2_ne (f := I) (j := 17) (v := Int32.ofInt 0) (show m + 7 ≠ m by omega))) _).trans (hP2 j hj)) (fun j hj => (congrFun ((u2_ne (f := (u2 I m 17 (Int32.ofInt 0))) (j := 16) (v := Int32.ofInt 1) (show m + 7 ≠ m by omega)).trans (u2_ne (f := I) (j := 17) (v := Int32.ofInt 0) (show m + 7 ≠ m by omega))) _).trans (hQ0 j hj)) (fun j hj => (congrFun ((u2_ne (f := (u2 I m 17 (Int32.ofInt 0))) (j := 16) (v := Int32.ofInt 1) (show m + 7 ≠ m by omega)).trans (u2_ne (f := I) (j := 17) (v := Int32.ofInt 0) (show m + 7 ≠ m by omega))) _).trans (hQ1 j hj)) (fun j hj => (congrFun ((u2_ne (f := (u2 I m 17 (Int32.ofInt 0))) (j := 16) (v := Int32.ofInt 1) (show m + 7 ≠ m by omega)).trans (u2_ne (f := I) (j := 17) (v := Int32.ofInt 0) (show m + 7 ≠ m by omega))) _).trans (hQ2 j hj)) ((congrFun (u2_ne (show m + 5 ≠ m by omega)) _).trans ((congrFun (u2_ne (show m + 5 ≠ m by omega)) _).trans so_g)) ((congrFun (u2_ne (show m + 5 ≠ m by omega)) _).trans ((congrFun (u2_ne (show m + 5 ≠ m by omega)) _).trans so_k)) (by rw [u2_at, if_neg (by decide), u2_at, if_pos rfl]; rfl) (by omega) (fun I9 G9 J9 o9 => ?_)
  exact ⟨rfl, hp I9 G9 J9 (OutM.from ((FrX.refl.put (Or.inr rfl)).put (Or.inl rfl)) o9)⟩
set_option maxHeartbeats 4000000 in
theorem M130_12_320 [NeZero p] {g k d' : Nat} {z0 z1 z2 z3 : Int32} {P0 P1 P2 Q0 Q1 Q2 : TR p D h} {post : Option Value → Me → Prop} (hM : MoM M m) (hA : MoA I m p h D) (hz0 : z0 = nI 12) (hz1 : z1 = nI g) (hz2 : z2 = nI k) (hz3 : z3 = nI 0) (hg : g < 60) (hk : k < 60) (hP0 : ∀ j, j < 8 → I (m + 7) (24 * g + 8 * 0 + j) = vE p D h P0 j) (hP1 : ∀ j, j < 8 → I (m + 7) (24 * g + 8 * 1 + j) = vE p D h P1 j) (hP2 : ∀ j, j < 8 → I (m + 7) (24 * g + 8 * 2 + j) = vE p D h P2 j) (hQ0 : ∀ j, j < 8 → I (m + 7) (24 * k + 8 * 0 + j) = vE p D h Q0 j) (hQ1 : ∀ j, j < 8 → I (m + 7) (24 * k + 8 * 1 + j) = vE p D h Q1 j) (hQ2 : ∀ j, j < 8 → I (m + 7) (24 * k + 8 * 2 + j) = vE p D h Q2 j) (so_g : I (m + 5) g = nI 3) (so_k : I (m + 5) k = nI 2) (hd : d + 13 ≤ d') (hp : ∀ I1 G1 J1, OutM I I1 G1 m p h 2 (Int32.ofInt 1) (mtF p D h Q0 Q1 Q2 P0 P1 P2 0) → post (some (.int (mtF p D h Q0 Q1 Q2 P0 P1 P2 0).1)) (St M (rg I1 m G1) J1)) : Ok K d' 130 [.ref m, .int z0, .int z1, .int z2, .int z3] (St M (rg I m G) J) post := by
  refine Ok.up (d := d + 13) (post := post) ?_ hd (fun _ _ h => h)
  subst hz0 hz1 hz2 hz3
  refine Ok.go (e := me_130) rfl rfl (Nat.le_of_ble_eq_true rfl) hM.c ?_
  refine Rf.go 300 [3, 45] ?_
  refine And.intro ⟨hM.c, Or.inl rfl⟩ ?_
  refine Rf.put ?_
  refine Rf.go 300 [3, 45] ?_
  have hA1 := hA.put (x := Int32.ofInt 0) (q := 17) (by decide) (by decide)
  refine And.intro (fun hb => absurd hb (by decide)) (fun _ => ?_)
  refine x_set0 (d := d) (p := p) (D := D) (h := h) (r := 0) hM (by decide) (by decide) (by have := hA1.1.2.2.2.1.1; omega) (by omega) (fun G2 J2 q2 f2 => ?_)
  refine And.intro (fun hb => absurd hb (by decide)) (fun _ => ?_)
  refine x_set0 (d := d) (p := p) (D := D) (h := h) (r := 1) hM (by decide) (by decide) (by have := hA1.1.2.2.2.1.1; omega) (by omega) (fun G3 J3 q3 f3 => ?_)
  refine And.intro (fun hb => absurd hb (by decide)) (fun _ => ?_)
  refine x_set0 (d := d) (p := p) (D := D) (h := h) (r := 2) hM (by decide) (by decide) (by have := hA1.1.2.2.2.1.1; omega) (by omega) (fun G4 J4 q4 f4 => ?_)
  refine And.intro (fun _ => ?_) (fun hb => absurd (by decide) hb)
  refine And.intro (fun _ => ?_) (fun hb => absurd (by decide) hb)
  refine And.intro (fun hb => absurd hb (by decide)) (fun _ => ?_)
  refine And.intro (fun hb => absurd hb (by decide)) (fun _ => ?_)
  refine And.intro hM.c ?_
  refine Rf.put ?_
  refine Rf.go 300 [3, 45] ?_
  have hA5 := hA1.put (x := Int32.ofInt 1) (q := 16) (by decide) (by decide)
  refine And.intro (fun hb => absurd hb (by decide)) (fun _ => ⟨153, rfl, ?_⟩)
  refine M133_320 (d := d) (g := g) (k := k) hM hA5 rfl rfl rfl (by omega) (by omega) (fun j hj => (congrFun ((u2_ne (f := (u2 I m 17 (Int32.ofInt 0))) (j := 16) (v := Int32.ofInt 1) (show m + 7 ≠ m by omega)).trans (u2_ne (f := I) (j := 17) (v := Int32.ofInt 0) (show m + 7 ≠ m by omega))) _).trans (hP0 j hj)) (fun j hj => (congrFun ((u2_ne (f := (u2 I m 17 (Int32.ofInt 0))) (j := 16) (v := Int32.ofInt 1) (show m + 7 ≠ m by omega)).trans (u2_ne (f := I) (j := 17) (v := Int32.ofInt 0) (show m + 7 ≠ m by omega))) _).trans (hP1 j hj)) (fun j hj => (congrFun ((u2_ne (f := (u2 I m 17 (Int32.ofInt 0))) (j := 16) (v := Int32.ofInt 1) (show m + 7 ≠ m by omega)).trans (u2_ne (f := I) (j := 17) (v := Int32.ofInt 0) (show m + 7 ≠ m by omega))) _).trans (hP2 j hj)) (fun j hj => (congrFun ((u2_ne (f := (u2 I m 17 (Int32.ofInt 0))) (j := 16) (v := Int32.ofInt 1) (show m + 7 ≠ m by omega)).trans (u2_ne (f := I) (j := 17) (v := Int32.ofInt 0) (show m + 7 ≠ m by omega))) _).trans (hQ0 j hj)) (fun j hj => (congrFun ((u2_ne (f := (u2 I m 17 (Int32.ofInt 0))) (j := 16) (v := Int32.ofInt 1) (show m + 7 ≠ m by omega)).trans (u2_ne (f := I) (j := 17) (v := Int32.ofInt 0) (show m + 7 ≠ m by omega))) _).trans (hQ1 j hj)) (fun j hj => (congrFun ((u2_ne (f := (u2 I m 17 (Int32.ofInt 0))) (j := 16) (v := Int32.ofInt 1) (show m + 7 ≠ m by omega)).trans (u2_ne (f := I) (j := 17) (v := Int32.ofInt 0) (show m + 7 ≠ m by omega))) _).trans (hQ2 j hj)) ((congrFun (u2_ne (show m + 5 ≠ m by omega)) _).trans ((congrFun (u2_ne (show m + 5 ≠ m by omega)) _).trans so_g)) ((congrFun (u2_ne (show m + 5 ≠ m by omega)) _).trans ((congrFun (u2_ne (show m + 5 ≠ m by omega)) _).trans so_k)) (by rw [u2_at, if_neg (by decide), u2_at, if_pos rfl]; rfl) (by omega) (fun I9 G9 J9 o9 => ?_)
  exact ⟨rfl, hp I9 G9 J9 (OutM.from ((FrX.refl.put (Or.inr rfl)).put (Or.inl rfl)) o9)⟩
set_option maxHeartbeats 4000000 in
theorem M130_12_321 [NeZero p] {g k d' : Nat} {z0 z1 z2 z3 : Int32} {P0 P1 P2 Q0 Q1 Q2 : TR p D h} {post : Option Value → Me → Prop} (hM : MoM M m) (hA : MoA I m p h D) (hz0 : z0 = nI 12) (hz1 : z1 = nI g) (hz2 : z2 = nI k) (hz3 : z3 = nI 1) (hg : g < 60) (hk : k < 60) (hP0 : ∀ j, j < 8 → I (m + 7) (24 * g + 8 * 0 + j) = vE p D h P0 j) (hP1 : ∀ j, j < 8 → I (m + 7) (24 * g + 8 * 1 + j) = vE p D h P1 j) (hP2 : ∀ j, j < 8 → I (m + 7) (24 * g + 8 * 2 + j) = vE p D h P2 j) (hQ0 : ∀ j, j < 8 → I (m + 7) (24 * k + 8 * 0 + j) = vE p D h Q0 j) (hQ1 : ∀ j, j < 8 → I (m + 7) (24 * k + 8 * 1 + j) = vE p D h Q1 j) (hQ2 : ∀ j, j < 8 → I (m + 7) (24 * k + 8 * 2 + j) = vE p D h Q2 j) (so_g : I (m + 5) g = nI 3) (so_k : I (m + 5) k = nI 2) (hd : d + 13 ≤ d') (hp : ∀ I1 G1 J1, OutM I I1 G1 m p h 2 (Int32.ofInt 1) (mtF p D h Q0 Q1 Q2 P0 P1 P2 1) → post (some (.int (mtF p D h Q0 Q1 Q2 P0 P1 P2 1).1)) (St M (rg I1 m G1) J1)) : Ok K d' 130 [.ref m, .int z0, .int z1, .int z2, .int z3] (St M (rg I m G) J) post := by
  refine Ok.up (d := d + 13) (post := post) ?_ hd (fun _ _ h => h)
  subst hz0 hz1 hz2 hz3
  refine Ok.go (e := me_130) rfl rfl (Nat.le_of_ble_eq_true rfl) hM.c ?_
  refine Rf.go 300 [3, 45] ?_
  refine And.intro ⟨hM.c, Or.inl rfl⟩ ?_
  refine Rf.put ?_
  refine Rf.go 300 [3, 45] ?_
  have hA1 := hA.put (x := Int32.ofInt 0) (q := 17) (by decide) (by decide)
  refine And.intro (fun hb => absurd hb (by decide)) (fun _ => ?_)
  refine x_set0 (d := d) (p := p) (D := D) (h := h) (r := 0) hM (by decide) (by decide) (by have := hA1.1.2.2.2.1.1; omega) (by omega) (fun G2 J2 q2 f2 => ?_)
  refine And.intro (fun hb => absurd hb (by decide)) (fun _ => ?_)
  refine x_set0 (d := d) (p := p) (D := D) (h := h) (r := 1) hM (by decide) (by decide) (by have := hA1.1.2.2.2.1.1; omega) (by omega) (fun G3 J3 q3 f3 => ?_)
  refine And.intro (fun hb => absurd hb (by decide)) (fun _ => ?_)
  refine x_set0 (d := d) (p := p) (D := D) (h := h) (r := 2) hM (by decide) (by decide) (by have := hA1.1.2.2.2.1.1; omega) (by omega) (fun G4 J4 q4 f4 => ?_)
  refine And.intro (fun _ => ?_) (fun hb => absurd (by decide) hb)
  refine And.intro (fun _ => ?_) (fun hb => absurd (by decide) hb)
  refine And.intro (fun hb => absurd hb (by decide)) (fun _ => ?_)
  refine And.intro (fun hb => absurd hb (by decide)) (fun _ => ?_)
  refine And.intro hM.c ?_
  refine Rf.put ?_
  refine Rf.go 300 [3, 45] ?_
  have hA5 := hA1.put (x := Int32.ofInt 1) (q := 16) (by decide) (by decide)
  refine And.intro (fun hb => absurd hb (by decide)) (fun _ => ⟨153, rfl, ?_⟩)
  refine M133_321 (d := d) (g := g) (k := k) hM hA5 rfl rfl rfl (by omega) (by omega) (fun j hj => (congrFun ((u2_ne (f := (u2 I m 17 (Int32.ofInt 0))) (j := 16) (v := Int32.ofInt 1) (show m + 7 ≠ m by omega)).trans (u2_ne (f := I) (j := 17) (v := Int32.ofInt 0) (show m + 7 ≠ m by omega))) _).trans (hP0 j hj)) (fun j hj => (congrFun ((u2_ne (f := (u2 I m 17 (Int32.ofInt 0))) (j := 16) (v := Int32.ofInt 1) (show m + 7 ≠ m by omega)).trans (u2_ne (f := I) (j := 17) (v := Int32.ofInt 0) (show m + 7 ≠ m by omega))) _).trans (hP1 j hj)) (fun j hj => (congrFun ((u2_ne (f := (u2 I m 17 (Int32.ofInt 0))) (j := 16) (v := Int32.ofInt 1) (show m + 7 ≠ m by omega)).trans (u2_ne (f := I) (j := 17) (v := Int32.ofInt 0) (show m + 7 ≠ m by omega))) _).trans (hP2 j hj)) (fun j hj => (congrFun ((u2_ne (f := (u2 I m 17 (Int32.ofInt 0))) (j := 16) (v := Int32.ofInt 1) (show m + 7 ≠ m by omega)).trans (u2_ne (f := I) (j := 17) (v := Int32.ofInt 0) (show m + 7 ≠ m by omega))) _).trans (hQ0 j hj)) (fun j hj => (congrFun ((u2_ne (f := (u2 I m 17 (Int32.ofInt 0))) (j := 16) (v := Int32.ofInt 1) (show m + 7 ≠ m by omega)).trans (u2_ne (f := I) (j := 17) (v := Int32.ofInt 0) (show m + 7 ≠ m by omega))) _).trans (hQ1 j hj)) (fun j hj => (congrFun ((u2_ne (f := (u2 I m 17 (Int32.ofInt 0))) (j := 16) (v := Int32.ofInt 1) (show m + 7 ≠ m by omega)).trans (u2_ne (f := I) (j := 17) (v := Int32.ofInt 0) (show m + 7 ≠ m by omega))) _).trans (hQ2 j hj)) ((congrFun (u2_ne (show m + 5 ≠ m by omega)) _).trans ((congrFun (u2_ne (show m + 5 ≠ m by omega)) _).trans so_g)) ((congrFun (u2_ne (show m + 5 ≠ m by omega)) _).trans ((congrFun (u2_ne (show m + 5 ≠ m by omega)) _).trans so_k)) (by rw [u2_at, if_neg (by decide), u2_at, if_pos rfl]; rfl) (by omega) (fun I9 G9 J9 o9 => ?_)
  exact ⟨rfl, hp I9 G9 J9 (OutM.from ((FrX.refl.put (Or.inr rfl)).put (Or.inl rfl)) o9)⟩
set_option maxHeartbeats 4000000 in
theorem M130_12_330 [NeZero p] {g k d' : Nat} {z0 z1 z2 z3 : Int32} {P0 P1 P2 Q0 Q1 Q2 : TR p D h} {post : Option Value → Me → Prop} (hM : MoM M m) (hA : MoA I m p h D) (hz0 : z0 = nI 12) (hz1 : z1 = nI g) (hz2 : z2 = nI k) (hz3 : z3 = nI 0) (hg : g < 60) (hk : k < 60) (hP0 : ∀ j, j < 8 → I (m + 7) (24 * g + 8 * 0 + j) = vE p D h P0 j) (hP1 : ∀ j, j < 8 → I (m + 7) (24 * g + 8 * 1 + j) = vE p D h P1 j) (hP2 : ∀ j, j < 8 → I (m + 7) (24 * g + 8 * 2 + j) = vE p D h P2 j) (hQ0 : ∀ j, j < 8 → I (m + 7) (24 * k + 8 * 0 + j) = vE p D h Q0 j) (hQ1 : ∀ j, j < 8 → I (m + 7) (24 * k + 8 * 1 + j) = vE p D h Q1 j) (hQ2 : ∀ j, j < 8 → I (m + 7) (24 * k + 8 * 2 + j) = vE p D h Q2 j) (so_g : I (m + 5) g = nI 3) (so_k : I (m + 5) k = nI 3) (hd : d + 13 ≤ d') (hp : ∀ I1 G1 J1, OutM I I1 G1 m p h 2 (Int32.ofInt 1) (ccF p D h P0 P1 P2 Q0 Q1 Q2 0) → post (some (.int (ccF p D h P0 P1 P2 Q0 Q1 Q2 0).1)) (St M (rg I1 m G1) J1)) : Ok K d' 130 [.ref m, .int z0, .int z1, .int z2, .int z3] (St M (rg I m G) J) post := by
  refine Ok.up (d := d + 13) (post := post) ?_ hd (fun _ _ h => h)
  subst hz0 hz1 hz2 hz3
  refine Ok.go (e := me_130) rfl rfl (Nat.le_of_ble_eq_true rfl) hM.c ?_
  refine Rf.go 300 [3, 45] ?_
  refine And.intro ⟨hM.c, Or.inl rfl⟩ ?_
  refine Rf.put ?_
  refine Rf.go 300 [3, 45] ?_
  have hA1 := hA.put (x := Int32.ofInt 0) (q := 17) (by decide) (by decide)
  refine And.intro (fun hb => absurd hb (by decide)) (fun _ => ?_)
  refine x_set0 (d := d) (p := p) (D := D) (h := h) (r := 0) hM (by decide) (by decide) (by have := hA1.1.2.2.2.1.1; omega) (by omega) (fun G2 J2 q2 f2 => ?_)
  refine And.intro (fun hb => absurd hb (by decide)) (fun _ => ?_)
  refine x_set0 (d := d) (p := p) (D := D) (h := h) (r := 1) hM (by decide) (by decide) (by have := hA1.1.2.2.2.1.1; omega) (by omega) (fun G3 J3 q3 f3 => ?_)
  refine And.intro (fun hb => absurd hb (by decide)) (fun _ => ?_)
  refine x_set0 (d := d) (p := p) (D := D) (h := h) (r := 2) hM (by decide) (by decide) (by have := hA1.1.2.2.2.1.1; omega) (by omega) (fun G4 J4 q4 f4 => ?_)
  refine And.intro (fun _ => ?_) (fun hb => absurd (by decide) hb)
  refine And.intro (fun _ => ?_) (fun hb => absurd (by decide) hb)
  refine And.intro (fun hb => absurd hb (by decide)) (fun _ => ?_)
  refine And.intro (fun hb => absurd hb (by decide)) (fun _ => ?_)
  refine And.intro hM.c ?_
  refine Rf.put ?_
  refine Rf.go 300 [3, 45] ?_
  have hA5 := hA1.put (x := Int32.ofInt 1) (q := 16) (by decide) (by decide)
  refine And.intro (fun hb => absurd hb (by decide)) (fun _ => ⟨153, rfl, ?_⟩)
  refine M133_330 (d := d) (g := g) (k := k) hM hA5 rfl rfl rfl (by omega) (by omega) (fun j hj => (congrFun ((u2_ne (f := (u2 I m 17 (Int32.ofInt 0))) (j := 16) (v := Int32.ofInt 1) (show m + 7 ≠ m by omega)).trans (u2_ne (f := I) (j := 17) (v := Int32.ofInt 0) (show m + 7 ≠ m by omega))) _).trans (hP0 j hj)) (fun j hj => (congrFun ((u2_ne (f := (u2 I m 17 (Int32.ofInt 0))) (j := 16) (v := Int32.ofInt 1) (show m + 7 ≠ m by omega)).trans (u2_ne (f := I) (j := 17) (v := Int32.ofInt 0) (show m + 7 ≠ m by omega))) _).trans (hP1 j hj)) (fun j hj => (congrFun ((u2_ne (f := (u2 I m 17 (Int32.ofInt 0))) (j := 16) (v := Int32.ofInt 1) (show m + 7 ≠ m by omega)).trans (u2_ne (f := I) (j := 17) (v := Int32.ofInt 0) (show m + 7 ≠ m by omega))) _).trans (hP2 j hj)) (fun j hj => (congrFun ((u2_ne (f := (u2 I m 17 (Int32.ofInt 0))) (j := 16) (v := Int32.ofInt 1) (show m + 7 ≠ m by omega)).trans (u2_ne (f := I) (j := 17) (v := Int32.ofInt 0) (show m + 7 ≠ m by omega))) _).trans (hQ0 j hj)) (fun j hj => (congrFun ((u2_ne (f := (u2 I m 17 (Int32.ofInt 0))) (j := 16) (v := Int32.ofInt 1) (show m + 7 ≠ m by omega)).trans (u2_ne (f := I) (j := 17) (v := Int32.ofInt 0) (show m + 7 ≠ m by omega))) _).trans (hQ1 j hj)) (fun j hj => (congrFun ((u2_ne (f := (u2 I m 17 (Int32.ofInt 0))) (j := 16) (v := Int32.ofInt 1) (show m + 7 ≠ m by omega)).trans (u2_ne (f := I) (j := 17) (v := Int32.ofInt 0) (show m + 7 ≠ m by omega))) _).trans (hQ2 j hj)) ((congrFun (u2_ne (show m + 5 ≠ m by omega)) _).trans ((congrFun (u2_ne (show m + 5 ≠ m by omega)) _).trans so_g)) ((congrFun (u2_ne (show m + 5 ≠ m by omega)) _).trans ((congrFun (u2_ne (show m + 5 ≠ m by omega)) _).trans so_k)) (by rw [u2_at, if_neg (by decide), u2_at, if_pos rfl]; rfl) (by omega) (fun I9 G9 J9 o9 => ?_)
  exact ⟨rfl, hp I9 G9 J9 (OutM.from ((FrX.refl.put (Or.inr rfl)).put (Or.inl rfl)) o9)⟩
set_option maxHeartbeats 4000000 in
theorem M130_12_331 [NeZero p] {g k d' : Nat} {z0 z1 z2 z3 : Int32} {P0 P1 P2 Q0 Q1 Q2 : TR p D h} {post : Option Value → Me → Prop} (hM : MoM M m) (hA : MoA I m p h D) (hz0 : z0 = nI 12) (hz1 : z1 = nI g) (hz2 : z2 = nI k) (hz3 : z3 = nI 1) (hg : g < 60) (hk : k < 60) (hP0 : ∀ j, j < 8 → I (m + 7) (24 * g + 8 * 0 + j) = vE p D h P0 j) (hP1 : ∀ j, j < 8 → I (m + 7) (24 * g + 8 * 1 + j) = vE p D h P1 j) (hP2 : ∀ j, j < 8 → I (m + 7) (24 * g + 8 * 2 + j) = vE p D h P2 j) (hQ0 : ∀ j, j < 8 → I (m + 7) (24 * k + 8 * 0 + j) = vE p D h Q0 j) (hQ1 : ∀ j, j < 8 → I (m + 7) (24 * k + 8 * 1 + j) = vE p D h Q1 j) (hQ2 : ∀ j, j < 8 → I (m + 7) (24 * k + 8 * 2 + j) = vE p D h Q2 j) (so_g : I (m + 5) g = nI 3) (so_k : I (m + 5) k = nI 3) (hd : d + 13 ≤ d') (hp : ∀ I1 G1 J1, OutM I I1 G1 m p h 2 (Int32.ofInt 1) (ccF p D h P0 P1 P2 Q0 Q1 Q2 1) → post (some (.int (ccF p D h P0 P1 P2 Q0 Q1 Q2 1).1)) (St M (rg I1 m G1) J1)) : Ok K d' 130 [.ref m, .int z0, .int z1, .int z2, .int z3] (St M (rg I m G) J) post := by
  refine Ok.up (d := d + 13) (post := post) ?_ hd (fun _ _ h => h)
  subst hz0 hz1 hz2 hz3
  refine Ok.go (e := me_130) rfl rfl (Nat.le_of_ble_eq_true rfl) hM.c ?_
  refine Rf.go 300 [3, 45] ?_
  refine And.intro ⟨hM.c, Or.inl rfl⟩ ?_
  refine Rf.put ?_
  refine Rf.go 300 [3, 45] ?_
  have hA1 := hA.put (x := Int32.ofInt 0) (q := 17) (by decide) (by decide)
  refine And.intro (fun hb => absurd hb (by decide)) (fun _ => ?_)
  refine x_set0 (d := d) (p := p) (D := D) (h := h) (r := 0) hM (by decide) (by decide) (by have := hA1.1.2.2.2.1.1; omega) (by omega) (fun G2 J2 q2 f2 => ?_)
  refine And.intro (fun hb => absurd hb (by decide)) (fun _ => ?_)
  refine x_set0 (d := d) (p := p) (D := D) (h := h) (r := 1) hM (by decide) (by decide) (by have := hA1.1.2.2.2.1.1; omega) (by omega) (fun G3 J3 q3 f3 => ?_)
  refine And.intro (fun hb => absurd hb (by decide)) (fun _ => ?_)
  refine x_set0 (d := d) (p := p) (D := D) (h := h) (r := 2) hM (by decide) (by decide) (by have := hA1.1.2.2.2.1.1; omega) (by omega) (fun G4 J4 q4 f4 => ?_)
  refine And.intro (fun _ => ?_) (fun hb => absurd (by decide) hb)
  refine And.intro (fun _ => ?_) (fun hb => absurd (by decide) hb)
  refine And.intro (fun hb => absurd hb (by decide)) (fun _ => ?_)
  refine And.intro (fun hb => absurd hb (by decide)) (fun _ => ?_)
  refine And.intro hM.c ?_
  refine Rf.put ?_
  refine Rf.go 300 [3, 45] ?_
  have hA5 := hA1.put (x := Int32.ofInt 1) (q := 16) (by decide) (by decide)
  refine And.intro (fun hb => absurd hb (by decide)) (fun _ => ⟨153, rfl, ?_⟩)
  refine M133_331 (d := d) (g := g) (k := k) hM hA5 rfl rfl rfl (by omega) (by omega) (fun j hj => (congrFun ((u2_ne (f := (u2 I m 17 (Int32.ofInt 0))) (j := 16) (v := Int32.ofInt 1) (show m + 7 ≠ m by omega)).trans (u2_ne (f := I) (j := 17) (v := Int32.ofInt 0) (show m + 7 ≠ m by omega))) _).trans (hP0 j hj)) (fun j hj => (congrFun ((u2_ne (f := (u2 I m 17 (Int32.ofInt 0))) (j := 16) (v := Int32.ofInt 1) (show m + 7 ≠ m by omega)).trans (u2_ne (f := I) (j := 17) (v := Int32.ofInt 0) (show m + 7 ≠ m by omega))) _).trans (hP1 j hj)) (fun j hj => (congrFun ((u2_ne (f := (u2 I m 17 (Int32.ofInt 0))) (j := 16) (v := Int32.ofInt 1) (show m + 7 ≠ m by omega)).trans (u2_ne (f := I) (j := 17) (v := Int32.ofInt 0) (show m + 7 ≠ m by omega))) _).trans (hP2 j hj)) (fun j hj => (congrFun ((u2_ne (f := (u2 I m 17 (Int32.ofInt 0))) (j := 16) (v := Int32.ofInt 1) (show m + 7 ≠ m by omega)).trans (u2_ne (f := I) (j := 17) (v := Int32.ofInt 0) (show m + 7 ≠ m by omega))) _).trans (hQ0 j hj)) (fun j hj => (congrFun ((u2_ne (f := (u2 I m 17 (Int32.ofInt 0))) (j := 16) (v := Int32.ofInt 1) (show m + 7 ≠ m by omega)).trans (u2_ne (f := I) (j := 17) (v := Int32.ofInt 0) (show m + 7 ≠ m by omega))) _).trans (hQ1 j hj)) (fun j hj => (congrFun ((u2_ne (f := (u2 I m 17 (Int32.ofInt 0))) (j := 16) (v := Int32.ofInt 1) (show m + 7 ≠ m by omega)).trans (u2_ne (f := I) (j := 17) (v := Int32.ofInt 0) (show m + 7 ≠ m by omega))) _).trans (hQ2 j hj)) ((congrFun (u2_ne (show m + 5 ≠ m by omega)) _).trans ((congrFun (u2_ne (show m + 5 ≠ m by omega)) _).trans so_g)) ((congrFun (u2_ne (show m + 5 ≠ m by omega)) _).trans ((congrFun (u2_ne (show m + 5 ≠ m by omega)) _).trans so_k)) (by rw [u2_at, if_neg (by decide), u2_at, if_pos rfl]; rfl) (by omega) (fun I9 G9 J9 o9 => ?_)
  exact ⟨rfl, hp I9 G9 J9 (OutM.from ((FrX.refl.put (Or.inr rfl)).put (Or.inl rfl)) o9)⟩
set_option maxHeartbeats 4000000 in
theorem M130_13 [NeZero p] {a1 b1 d' : Nat} {z0 z1 z2 c1 : Int32} {A : TR p D h} {post : Option Value → Me → Prop} (hM : MoM M m) (hA : MoA I m p h D) (hz0 : z0 = nI 13) (hz1 : z1 = nI a1) (hz2 : z2 = nI b1) (ha : a1 < 60) (hb : b1 < 3) (hA0 : ∀ j, j < 8 → I (m + 7) (24 * a1 + 8 * b1 + j) = vE p D h A j) (hd : d + 13 ≤ d') (hp : ∀ I1 G1 J1, OutM I I1 G1 m p h 1 (Int32.ofInt 0) (nk13 p D h A) → post (some (.int (nk13 p D h A).1)) (St M (rg I1 m G1) J1)) : Ok K d' 130 [.ref m, .int z0, .int z1, .int z2, .int c1] (St M (rg I m G) J) post := by
  refine Ok.up (d := d + 13) (post := post) ?_ hd (fun _ _ h => h)
  subst hz0 hz1 hz2
  refine Ok.go (e := me_130) rfl rfl (Nat.le_of_ble_eq_true rfl) hM.c ?_
  refine Rf.go 300 [3, 45] ?_
  refine And.intro ⟨hM.c, Or.inl rfl⟩ ?_
  refine Rf.put ?_
  refine Rf.go 300 [3, 45] ?_
  have hA1 := hA.put (x := Int32.ofInt 0) (q := 17) (by decide) (by decide)
  refine And.intro (fun hb => absurd hb (by decide)) (fun _ => ?_)
  refine x_set0 (d := d) (p := p) (D := D) (h := h) (r := 0) hM (by decide) (by decide) (by have := hA1.1.2.2.2.1.1; omega) (by omega) (fun G2 J2 q2 f2 => ?_)
  refine And.intro (fun hb => absurd hb (by decide)) (fun _ => ?_)
  refine x_set0 (d := d) (p := p) (D := D) (h := h) (r := 1) hM (by decide) (by decide) (by have := hA1.1.2.2.2.1.1; omega) (by omega) (fun G3 J3 q3 f3 => ?_)
  refine And.intro (fun hb => absurd hb (by decide)) (fun _ => ?_)
  refine x_set0 (d := d) (p := p) (D := D) (h := h) (r := 2) hM (by decide) (by decide) (by have := hA1.1.2.2.2.1.1; omega) (by omega) (fun G4 J4 q4 f4 => ?_)
  refine And.intro (fun _ => ?_) (fun hb => absurd (by decide) hb)
  refine And.intro (fun _ => ?_) (fun hb => absurd (by decide) hb)
  refine And.intro (fun hb => absurd hb (by decide)) (fun _ => ?_)
  refine And.intro (fun _ => ?_) (fun hb => absurd (by decide) hb)
  refine And.intro (fun hb => absurd hb (by decide)) (fun _ => ?_)
  refine And.intro (fun _ => ?_) (fun hb => absurd (by decide) hb)
  refine And.intro (fun hb => absurd hb (by decide)) (fun _ => ?_)
  refine And.intro hM.c ?_
  refine Rf.put ?_
  refine Rf.go 300 [3, 45] ?_
  have hA5 := hA1.put (x := Int32.ofInt 0) (q := 16) (by decide) (by decide)
  refine And.intro (fun hb => absurd hb (by decide)) (fun _ => ⟨159, rfl, ?_⟩)
  refine x_loadE (d := d) (r := 0) (a := a1) (k := b1) (v := vE p D h A) hM rfl rfl rfl (by decide) (by omega) (by omega) (fun j hj => (congrFun ((u2_ne (f := (u2 I m 17 (Int32.ofInt 0))) (j := 16) (v := Int32.ofInt 0) (show m + 7 ≠ m by omega)).trans (u2_ne (f := I) (j := 17) (v := Int32.ofInt 0) (show m + 7 ≠ m by omega))) _).trans (hA0 j hj)) (by omega) (fun G6 J6 q6 f6 => ?_)
  exact ⟨rfl, hp (u2 (u2 I m 17 (Int32.ofInt 0)) m 16 (Int32.ofInt 0)) G6 J6 (OutM.r1 hA5 q6 (by rw [u2_at, if_pos rfl]) (by rw [u2_at, if_neg (by decide), u2_at, if_pos rfl, Nat.sub_self]; rfl) ((FrX.refl.put (Or.inr rfl)).put (Or.inl rfl)))⟩
end N5
