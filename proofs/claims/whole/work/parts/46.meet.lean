/-! House: printed by hgen.py -/
section H6
variable {K : Ka} {d o p h : Nat} {M : Me} {I : Nat → Nat → Int32} {J : Nat → Nat → Int64} {D : Nat → Nat → Nat}
/-- what a step gives: 0 or what refuses it, bases, height, rows -/
abbrev Rz : Type := Int32 × (Nat → Nat → Nat) × Nat × (Nat → Nat → Nat)
def rz3 (u v w : Nat → Nat) : Nat → Nat → Nat := fun i => if i = 0 then u else if i = 1 then v else w
def rzN (n : Int32) (D : Nat → Nat → Nat) (h : Nat) : Rz := (n, D, h, fun _ _ => 0)
noncomputable def slE (p : Nat) [NeZero p] (D : Nat → Nat → Nat) (h : Nat) (A B : TR p D h) : TR p D h := (sel p D h B ((TI p D h).ofNat 0).ofNat A)
noncomputable def alE (p : Nat) [NeZero p] (D : Nat → Nat → Nat) (h : Nat) (B X Y : TR p D h) : TR p D h := (sel p D h B Y X)
noncomputable def acE (p : Nat) [NeZero p] (D : Nat → Nat → Nat) (h : Nat) (B X Y : TR p D h) : TR p D h := (sel p D h B X Y)
noncomputable def quE (p : Nat) [NeZero p] (D : Nat → Nat → Nat) (h : Nat) (A B : TR p D h) : TR p D h := ((TI p D h).add ((TI p D h).mul (slE p D h A B) (slE p D h A B)) ((TI p D h).ofNat 1).ofNat)
noncomputable def liE (p : Nat) [NeZero p] (D : Nat → Nat → Nat) (h : Nat) (A B C X Y : TR p D h) : TR p D h := ((TI p D h).add ((TI p D h).sub ((TI p D h).mul (slE p D h A B) ((TI p D h).add C (acE p D h B X Y))) (alE p D h B X Y)) ((TI p D h).sub ((TI p D h).mul (slE p D h A B) ((TI p D h).add C (acE p D h B X Y))) (alE p D h B X Y)))
noncomputable def coE (p : Nat) [NeZero p] (D : Nat → Nat → Nat) (h : Nat) (B C X Y S : TR p D h) : TR p D h := ((TI p D h).sub ((TI p D h).add ((TI p D h).mul (alE p D h B X Y) (alE p D h B X Y)) ((TI p D h).mul ((TI p D h).add C (acE p D h B X Y)) ((TI p D h).add C (acE p D h B X Y)))) S)
noncomputable def diE (p : Nat) [NeZero p] (D : Nat → Nat → Nat) (h : Nat) (A B C X Y S : TR p D h) : TR p D h := ((TI p D h).sub ((TI p D h).mul (liE p D h A B C X Y) (liE p D h A B C X Y)) ((TI p D h).add ((TI p D h).add ((TI p D h).mul (quE p D h A B) (coE p D h B C X Y S)) ((TI p D h).mul (quE p D h A B) (coE p D h B C X Y S))) ((TI p D h).add ((TI p D h).mul (quE p D h A B) (coE p D h B C X Y S)) ((TI p D h).mul (quE p D h A B) (coE p D h B C X Y S)))))
noncomputable def acr (p : Nat) [NeZero p] (D : Nat → Nat → Nat) (h : Nat) (C SL SO : TR p D h) : TR p D h := ((TI p D h).neg ((TI p D h).add ((TI p D h).mul SL SO) C))
/-- where the solution lies, on the line -/
noncomputable def plc (p : Nat) [NeZero p] (D : Nat → Nat → Nat) (h : Nat) (B C SL SO : TR p D h) : Nat → Nat → Nat := rz3 (tV p D h (sel p D h B (acr p D h C SL SO) SO)) (tV p D h (sel p D h B SO (acr p D h C SL SO))) (fun _ => 0)
noncomputable def solE (p : Nat) [NeZero p] (D : Nat → Nat → Nat) (h : Nat) (R LI QU : TR p D h) : TR p D h := (TI p D h).mul ((TI p D h).sub R LI) (iv p D h ((TI p D h).add QU QU))
noncomputable def rtI (p : Nat) [NeZero p] (D : Nat → Nat → Nat) (h : Nat) (R : TR p D h) (i : Nat) : TR p D h := if i = 0 then (TI p D h).neg R else R
/-- a line and a circle meet -/
noncomputable def mtF (p : Nat) [NeZero p] (D : Nat → Nat → Nat) (h : Nat) (A B C X Y S : TR p D h) (i : Nat) : Rz := @ite _ ((quE p D h A B) = ((TI p D h).ofNat 0).ofNat) (Classical.propDecidable _) (@ite _ ((liE p D h A B C X Y) = ((TI p D h).ofNat 0).ofNat) (Classical.propDecidable _) (@ite _ ((coE p D h B C X Y S) = ((TI p D h).ofNat 0).ofNat) (Classical.propDecidable _) (rzN (Int32.ofInt (-3)) D h) (rzN (Int32.ofInt (-4)) D h)) (@ite _ (¬ i = 0) (Classical.propDecidable _) (rzN (Int32.ofInt (-4)) D h) ((Int32.ofInt 0, D, h, plc p D h B C (slE p D h A B) ((TI p D h).neg ((TI p D h).mul (coE p D h B C X Y S) (iv p D h (liE p D h A B C X Y)))))))) (@ite _ ((diE p D h A B C X Y S) = ((TI p D h).ofNat 0).ofNat ∧ ¬ i = 0) (Classical.propDecidable _) (rzN (Int32.ofInt (-4)) D h) (@ite _ (RtC p D h (diE p D h A B C X Y S)) (Classical.propDecidable _) ((Int32.ofInt 0, (gB p D h (diE p D h A B C X Y S)), (gH p D h (diE p D h A B C X Y S)), plc p (gB p D h (diE p D h A B C X Y S)) (gH p D h (diE p D h A B C X Y S)) (cv p D h (gB p D h (diE p D h A B C X Y S)) (gH p D h (diE p D h A B C X Y S)) B) (cv p D h (gB p D h (diE p D h A B C X Y S)) (gH p D h (diE p D h A B C X Y S)) C) (cv p D h (gB p D h (diE p D h A B C X Y S)) (gH p D h (diE p D h A B C X Y S)) (slE p D h A B)) (solE p (gB p D h (diE p D h A B C X Y S)) (gH p D h (diE p D h A B C X Y S)) (rtI p (gB p D h (diE p D h A B C X Y S)) (gH p D h (diE p D h A B C X Y S)) (oV p (gB p D h (diE p D h A B C X Y S)) (gH p D h (diE p D h A B C X Y S)) (rV p D h (diE p D h A B C X Y S))) i) (cv p D h (gB p D h (diE p D h A B C X Y S)) (gH p D h (diE p D h A B C X Y S)) (liE p D h A B C X Y)) (cv p D h (gB p D h (diE p D h A B C X Y S)) (gH p D h (diE p D h A B C X Y S)) (quE p D h A B))))) (rzN (Int32.ofInt (-5)) D h)))
theorem mtF_1 [NeZero p] {A B C X Y S : TR p D h} {i : Nat} (a : (quE p D h A B) = ((TI p D h).ofNat 0).ofNat) (b : (liE p D h A B C X Y) = ((TI p D h).ofNat 0).ofNat) (c : (coE p D h B C X Y S) = ((TI p D h).ofNat 0).ofNat) : mtF p D h A B C X Y S i = rzN (Int32.ofInt (-3)) D h := (if_pos a).trans ((if_pos b).trans (if_pos c))
theorem mtF_2 [NeZero p] {A B C X Y S : TR p D h} {i : Nat} (a : (quE p D h A B) = ((TI p D h).ofNat 0).ofNat) (b : (liE p D h A B C X Y) = ((TI p D h).ofNat 0).ofNat) (c : ¬ (coE p D h B C X Y S) = ((TI p D h).ofNat 0).ofNat) : mtF p D h A B C X Y S i = rzN (Int32.ofInt (-4)) D h := (if_pos a).trans ((if_pos b).trans (if_neg c))
theorem mtF_3 [NeZero p] {A B C X Y S : TR p D h} {i : Nat} (a : (quE p D h A B) = ((TI p D h).ofNat 0).ofNat) (b : ¬ (liE p D h A B C X Y) = ((TI p D h).ofNat 0).ofNat) (c : ¬ i = 0) : mtF p D h A B C X Y S i = rzN (Int32.ofInt (-4)) D h := (if_pos a).trans ((if_neg b).trans (if_pos c))
theorem mtF_4 [NeZero p] {A B C X Y S : TR p D h} {i : Nat} (a : (quE p D h A B) = ((TI p D h).ofNat 0).ofNat) (b : ¬ (liE p D h A B C X Y) = ((TI p D h).ofNat 0).ofNat) (c : i = 0) : mtF p D h A B C X Y S i = (Int32.ofInt 0, D, h, plc p D h B C (slE p D h A B) ((TI p D h).neg ((TI p D h).mul (coE p D h B C X Y S) (iv p D h (liE p D h A B C X Y))))) := (if_pos a).trans ((if_neg b).trans (if_neg (fun w => w c)))
theorem mtF_5 [NeZero p] {A B C X Y S : TR p D h} {i : Nat} (a : ¬ (quE p D h A B) = ((TI p D h).ofNat 0).ofNat) (b : (diE p D h A B C X Y S) = ((TI p D h).ofNat 0).ofNat) (c : ¬ i = 0) : mtF p D h A B C X Y S i = rzN (Int32.ofInt (-4)) D h := (if_neg a).trans (if_pos ⟨b, c⟩)
theorem mtF_6 [NeZero p] {A B C X Y S : TR p D h} {i : Nat} (a : ¬ (quE p D h A B) = ((TI p D h).ofNat 0).ofNat) (b : ¬ ((diE p D h A B C X Y S) = ((TI p D h).ofNat 0).ofNat ∧ ¬ i = 0)) (c : RtC p D h (diE p D h A B C X Y S)) : mtF p D h A B C X Y S i = (Int32.ofInt 0, (gB p D h (diE p D h A B C X Y S)), (gH p D h (diE p D h A B C X Y S)), plc p (gB p D h (diE p D h A B C X Y S)) (gH p D h (diE p D h A B C X Y S)) (cv p D h (gB p D h (diE p D h A B C X Y S)) (gH p D h (diE p D h A B C X Y S)) B) (cv p D h (gB p D h (diE p D h A B C X Y S)) (gH p D h (diE p D h A B C X Y S)) C) (cv p D h (gB p D h (diE p D h A B C X Y S)) (gH p D h (diE p D h A B C X Y S)) (slE p D h A B)) (solE p (gB p D h (diE p D h A B C X Y S)) (gH p D h (diE p D h A B C X Y S)) (rtI p (gB p D h (diE p D h A B C X Y S)) (gH p D h (diE p D h A B C X Y S)) (oV p (gB p D h (diE p D h A B C X Y S)) (gH p D h (diE p D h A B C X Y S)) (rV p D h (diE p D h A B C X Y S))) i) (cv p D h (gB p D h (diE p D h A B C X Y S)) (gH p D h (diE p D h A B C X Y S)) (liE p D h A B C X Y)) (cv p D h (gB p D h (diE p D h A B C X Y S)) (gH p D h (diE p D h A B C X Y S)) (quE p D h A B)))) := (if_neg a).trans ((if_neg b).trans (if_pos c))
theorem mtF_7 [NeZero p] {A B C X Y S : TR p D h} {i : Nat} (a : ¬ (quE p D h A B) = ((TI p D h).ofNat 0).ofNat) (b : ¬ ((diE p D h A B C X Y S) = ((TI p D h).ofNat 0).ofNat ∧ ¬ i = 0)) (c : ¬ RtC p D h (diE p D h A B C X Y S)) : mtF p D h A B C X Y S i = rzN (Int32.ofInt (-5)) D h := (if_neg a).trans ((if_neg b).trans (if_neg c))
/-- two lines meet -/
noncomputable def mlF (p : Nat) [NeZero p] (D : Nat → Nat → Nat) (h : Nat) (L0 L1 L2 M0 M1 M2 : TR p D h) (i : Nat) : Rz := @ite _ (L0 = M0 ∧ L1 = M1) (Classical.propDecidable _) (@ite _ (L2 = M2) (Classical.propDecidable _) (rzN (Int32.ofInt (-3)) D h) (rzN (Int32.ofInt (-4)) D h)) (@ite _ (¬ i = 0) (Classical.propDecidable _) (rzN (Int32.ofInt (-4)) D h) ((Int32.ofInt 0, D, h, rz3 (tV p D h ((TI p D h).mul ((TI p D h).sub ((TI p D h).mul L1 M2) ((TI p D h).mul L2 M1)) (iv p D h ((TI p D h).sub ((TI p D h).mul L0 M1) ((TI p D h).mul L1 M0))))) (tV p D h ((TI p D h).mul ((TI p D h).sub ((TI p D h).mul L2 M0) ((TI p D h).mul L0 M2)) (iv p D h ((TI p D h).sub ((TI p D h).mul L0 M1) ((TI p D h).mul L1 M0))))) (fun _ => 0))))
theorem mlF_1 [NeZero p] {L0 L1 L2 M0 M1 M2 : TR p D h} {i : Nat} (a : L0 = M0 ∧ L1 = M1) (b : L2 = M2) : mlF p D h L0 L1 L2 M0 M1 M2 i = rzN (Int32.ofInt (-3)) D h := (if_pos a).trans (if_pos b)
theorem mlF_2 [NeZero p] {L0 L1 L2 M0 M1 M2 : TR p D h} {i : Nat} (a : L0 = M0 ∧ L1 = M1) (b : ¬ L2 = M2) : mlF p D h L0 L1 L2 M0 M1 M2 i = rzN (Int32.ofInt (-4)) D h := (if_pos a).trans (if_neg b)
theorem mlF_3 [NeZero p] {L0 L1 L2 M0 M1 M2 : TR p D h} {i : Nat} (a : ¬ (L0 = M0 ∧ L1 = M1)) (b : ¬ i = 0) : mlF p D h L0 L1 L2 M0 M1 M2 i = rzN (Int32.ofInt (-4)) D h := (if_neg a).trans (if_pos b)
theorem mlF_4 [NeZero p] {L0 L1 L2 M0 M1 M2 : TR p D h} {i : Nat} (a : ¬ (L0 = M0 ∧ L1 = M1)) (b : i = 0) : mlF p D h L0 L1 L2 M0 M1 M2 i = (Int32.ofInt 0, D, h, rz3 (tV p D h ((TI p D h).mul ((TI p D h).sub ((TI p D h).mul L1 M2) ((TI p D h).mul L2 M1)) (iv p D h ((TI p D h).sub ((TI p D h).mul L0 M1) ((TI p D h).mul L1 M0))))) (tV p D h ((TI p D h).mul ((TI p D h).sub ((TI p D h).mul L2 M0) ((TI p D h).mul L0 M2)) (iv p D h ((TI p D h).sub ((TI p D h).mul L0 M1) ((TI p D h).mul L1 M0))))) (fun _ => 0)) := (if_neg a).trans (if_neg (fun w => w b))
/-- the outcome of thing t in the house: tower, rows -/
def OutC (I1 : Nat → Nat → Int32) (o p : Nat) [NeZero p] (t sz : Nat) (r : Rz) : Prop := TwA I1 (o + 1) p r.2.2.1 r.2.1 ∧ (r.1 = Int32.ofInt 0 → ∀ i, i < sz → ∀ j, j < 8 → I1 (o + 26 + 3 * t + i) j = nI (r.2.2.2 i j))
/-- what making thing t leaves as it is -/
def FrC (I I1 : Nat → Nat → Int32) (o t : Nat) : Prop := ∀ a, (a < o + 1 ∨ o + 25 ≤ a) → (a < o + 206 ∨ o + 219 ≤ a ∨ a = o + 209) → (a < o + 26 + 3 * t ∨ o + 26 + 3 * t + 3 ≤ a) → I1 a = I a
theorem OutC.no [NeZero p] {I1 : Nat → Nat → Int32} {n : Int32} {t sz : Nat} (hn : ¬ n = Int32.ofInt 0) (hA : TwA I1 (o + 1) p h D) : OutC I1 o p t sz (rzN n D h) := ⟨hA, fun q => absurd q hn⟩
theorem OutC.r2 [NeZero p] {I1 : Nat → Nat → Int32} {t : Nat} {U V : TR p D h} {w : Nat → Nat} (hA : TwA I1 (o + 1) p h D) (hU : Re I1 p D h (o + 26 + 3 * t + 0) U) (hV : Re I1 p D h (o + 26 + 3 * t + 1) V) : OutC I1 o p t 2 (Int32.ofInt 0, D, h, rz3 (tV p D h U) (tV p D h V) w) := by
  refine ⟨hA, fun _ i hi j hj => ?_⟩
  rcases (show i = 0 ∨ i = 1 by omega) with rfl | rfl
  · exact hU j hj
  · exact hV j hj
theorem OutC.r3 [NeZero p] {I1 : Nat → Nat → Int32} {t : Nat} {U V W : TR p D h} (hA : TwA I1 (o + 1) p h D) (hU : Re I1 p D h (o + 26 + 3 * t + 0) U) (hV : Re I1 p D h (o + 26 + 3 * t + 1) V) (hW : Re I1 p D h (o + 26 + 3 * t + 2) W) : OutC I1 o p t 3 (Int32.ofInt 0, D, h, rz3 (tV p D h U) (tV p D h V) (tV p D h W)) := by
  refine ⟨hA, fun _ i hi j hj => ?_⟩
  rcases (show i = 0 ∨ i = 1 ∨ i = 2 by omega) with rfl | rfl | rfl
  · exact hU j hj
  · exact hV j hj
  · exact hW j hj
theorem OutC.r1 [NeZero p] {I1 : Nat → Nat → Int32} {t : Nat} {U : TR p D h} {v w : Nat → Nat} (hA : TwA I1 (o + 1) p h D) (hU : Re I1 p D h (o + 26 + 3 * t + 0) U) : OutC I1 o p t 1 (Int32.ofInt 0, D, h, rz3 (tV p D h U) v w) := by
  refine ⟨hA, fun _ i hi j hj => ?_⟩
  rcases (show i = 0 by omega) with rfl
  exact hU j hj
set_option maxHeartbeats 4000000 in
theorem H25_0 [NeZero p] {t l m d' : Nat} {z0 z1 z2 z3 : Int32} {L0 L1 L2 M0 M1 M2 : TR p D h} {post : Option Value → Me → Prop} (hK : Ksp K) (hM : HsM M o) (hA : TwA I (o + 1) p h D) (hz0 : z0 = nI t) (hz1 : z1 = nI l) (hz2 : z2 = nI m) (hz3 : z3 = nI 0) (ht : t < 60) (hl : l < t) (hm : m < t) (hL0 : Re I p D h (o + 26 + 3 * l + 0) L0) (hL1 : Re I p D h (o + 26 + 3 * l + 1) L1) (hL2 : Re I p D h (o + 26 + 3 * l + 2) L2) (hM0 : Re I p D h (o + 26 + 3 * m + 0) M0) (hM1 : Re I p D h (o + 26 + 3 * m + 1) M1) (hM2 : Re I p D h (o + 26 + 3 * m + 2) M2) (hd : d + 5 ≤ d') (hp : ∀ I1 J1, OutC I1 o p t 2 (mlF p D h L0 L1 L2 M0 M1 M2 0) → FrC I I1 o t → post (some (.int (mlF p D h L0 L1 L2 M0 M1 M2 0).1)) (St M I1 J1)) : Ok K d' 25 [.ref o, .int z0, .int z1, .int z2, .int z3] (St M I J) post := by
  refine Ok.up (d := d + 5) (post := post) ?_ hd (fun _ _ h => h)
  subst hz0 hz1 hz2 hz3
  refine Ok.go (e := me_25) rfl rfl (Nat.le_of_ble_eq_true rfl) hM.c ?_
  refine Rf.go 300 [] ?_
  refine H10_2 (d := d) (s := l) (t := m)  hK hM hA rfl rfl rfl (by omega) (by omega) hL0 hL1 hM0 hM1 (by omega) (fun z1 z2 => ?_) (fun z3 => ?_)
  · refine And.intro (fun hb => absurd hb (by decide)) (fun _ => ?_)
    refine H10_3 (d := d) (s := l) (t := m)  hK hM hA rfl rfl rfl (by omega) (by omega) hL0 hL1 hL2 hM0 hM1 hM2 (by omega) (fun z4 z5 z6 => ?_) (fun z7 => ?_)
    · refine And.intro (fun hb => absurd hb (by decide)) (fun _ => ?_)
      rw [mlF_1 ⟨z1, z2⟩ z6] at hp
      exact ⟨rfl, hp I J (OutC.no (by decide) hA) (fun a h1 h2 h3 => rfl)⟩
    · refine And.intro (fun _ => ?_) (fun hb => absurd (by decide) hb)
      rw [mlF_2 ⟨z1, z2⟩ (fun w => z7 ⟨z1, z2, w⟩)] at hp
      exact ⟨rfl, hp I J (OutC.no (by decide) hA) (fun a h1 h2 h3 => rfl)⟩
  · refine And.intro (fun _ => ?_) (fun hb => absurd (by decide) hb)
    refine And.intro (fun _ => ?_) (fun hb => absurd (by decide) hb)
    refine And.intro hM.c ⟨o + 215, hM.r8, ?_⟩
    refine H26 (d := d) (l := l) (m := m) (i := 0) (j := 1) hK hM hA rfl rfl rfl rfl (hM.rc (by omega)) (by omega) (by omega) (by omega) (by omega) (by omega) hL0 hM1 hL1 hM0 (by omega) (fun I8 J8 q8_0 f8 => ?_)
    refine (h_row (K := K) (d := d) (t := t) (i := 0) hM (by omega) (by omega) rfl rfl).up (by omega) ?_
    rintro r M1 ⟨rfl, rfl⟩
    have q9 := (hL1).keep (f8 _ (by omega) (by omega) (by omega))
    have q10 := (hM2).keep (f8 _ (by omega) (by omega) (by omega))
    have q11 := (hL2).keep (f8 _ (by omega) (by omega) (by omega))
    have q12 := (hM1).keep (f8 _ (by omega) (by omega) (by omega))
    have hA13 := (hA).keep (fun a h1 h2 => f8 a (by omega) (by omega) (by omega))
    refine H26 (d := d) (l := l) (m := m) (i := 1) (j := 2) hK hM hA13 rfl rfl rfl rfl (hM.rc (by omega)) (by omega) (by omega) (by omega) (by omega) (by omega) q9 q10 q11 q12 (by omega) (fun I14 J14 q14_0 f14 => ?_)
    refine (h_row (K := K) (d := d) (t := t) (i := 1) hM (by omega) (by omega) rfl rfl).up (by omega) ?_
    rintro r M1 ⟨rfl, rfl⟩
    have q15 := (q11).keep (f14 _ (by omega) (by omega) (by omega))
    have q16 := ((hM0).keep (f8 _ (by omega) (by omega) (by omega))).keep (f14 _ (by omega) (by omega) (by omega))
    have q17 := ((hL0).keep (f8 _ (by omega) (by omega) (by omega))).keep (f14 _ (by omega) (by omega) (by omega))
    have q18 := (q10).keep (f14 _ (by omega) (by omega) (by omega))
    have hA19 := (hA13).keep (fun a h1 h2 => f14 a (by omega) (by omega) (by omega))
    refine H26 (d := d) (l := l) (m := m) (i := 2) (j := 0) hK hM hA19 rfl rfl rfl rfl (hM.rc (by omega)) (by omega) (by omega) (by omega) (by omega) (by omega) q15 q16 q17 q18 (by omega) (fun I20 J20 q20_0 f20 => ?_)
    refine And.intro hM.c ⟨o + 1, hM.r0, ?_⟩
    refine (h_row (K := K) (d := d) (t := t) (i := 0) hM (by omega) (by omega) rfl rfl).up (by omega) ?_
    rintro r M1 ⟨rfl, rfl⟩
    refine And.intro hM.c ⟨o + 215, hM.r8, ?_⟩
    refine (h_row (K := K) (d := d) (t := t) (i := 0) hM (by omega) (by omega) rfl rfl).up (by omega) ?_
    rintro r M1 ⟨rfl, rfl⟩
    have q21 := (q14_0).keep (f20 _ (by omega) (by omega) (by omega))
    have q22 := ((q8_0).keep (f14 _ (by omega) (by omega) (by omega))).keep (f20 _ (by omega) (by omega) (by omega))
    have hA23 := (hA19).keep (fun a h1 h2 => f20 a (by omega) (by omega) (by omega))
    refine e_div' (d := d) hK hM.tw hA23 (hM.rc (by omega)) (hM.rc (by omega)) (hM.rc (by omega)) q21 q22 (by omega) (by omega) (fun I24 J24 q24 f24 => ?_)
    refine And.intro hM.c ⟨o + 1, hM.r0, ?_⟩
    refine (h_row (K := K) (d := d) (t := t) (i := 1) hM (by omega) (by omega) rfl rfl).up (by omega) ?_
    rintro r M1 ⟨rfl, rfl⟩
    refine And.intro hM.c ⟨o + 215, hM.r8, ?_⟩
    refine (h_row (K := K) (d := d) (t := t) (i := 1) hM (by omega) (by omega) rfl rfl).up (by omega) ?_
    rintro r M1 ⟨rfl, rfl⟩
    have q25 := (q20_0).keep (f24 _ (by omega) (by omega))
    have q26 := (q22).keep (f24 _ (by omega) (by omega))
    have hA27 := (hA23).keep (fun a h1 h2 => f24 a (by omega) (by omega))
    refine e_div' (d := d) hK hM.tw hA27 (hM.rc (by omega)) (hM.rc (by omega)) (hM.rc (by omega)) q25 q26 (by omega) (by omega) (fun I28 J28 q28 f28 => ?_)
    have hA29 := (hA27).keep (fun a h1 h2 => f28 a (by omega) (by omega))
    have q30 := (q24).keep (f28 _ (by omega) (by omega))
    rw [mlF_4 z3 rfl] at hp
    exact ⟨rfl, hp I28 J28 (OutC.r2 hA29 q30 q28) (fun a h1 h2 h3 => (((((f28 a (by omega) (by omega)).trans (f24 a (by omega) (by omega))).trans (f20 a (by omega) (by omega) (by omega))).trans (f14 a (by omega) (by omega) (by omega))).trans (f8 a (by omega) (by omega) (by omega))))⟩
set_option maxHeartbeats 4000000 in
theorem H25_1 [NeZero p] {t l m d' : Nat} {z0 z1 z2 z3 : Int32} {L0 L1 L2 M0 M1 M2 : TR p D h} {post : Option Value → Me → Prop} (hK : Ksp K) (hM : HsM M o) (hA : TwA I (o + 1) p h D) (hz0 : z0 = nI t) (hz1 : z1 = nI l) (hz2 : z2 = nI m) (hz3 : z3 = nI 1) (ht : t < 60) (hl : l < t) (hm : m < t) (hL0 : Re I p D h (o + 26 + 3 * l + 0) L0) (hL1 : Re I p D h (o + 26 + 3 * l + 1) L1) (hL2 : Re I p D h (o + 26 + 3 * l + 2) L2) (hM0 : Re I p D h (o + 26 + 3 * m + 0) M0) (hM1 : Re I p D h (o + 26 + 3 * m + 1) M1) (hM2 : Re I p D h (o + 26 + 3 * m + 2) M2) (hd : d + 5 ≤ d') (hp : ∀ I1 J1, OutC I1 o p t 2 (mlF p D h L0 L1 L2 M0 M1 M2 1) → FrC I I1 o t → post (some (.int (mlF p D h L0 L1 L2 M0 M1 M2 1).1)) (St M I1 J1)) : Ok K d' 25 [.ref o, .int z0, .int z1, .int z2, .int z3] (St M I J) post := by
  refine Ok.up (d := d + 5) (post := post) ?_ hd (fun _ _ h => h)
  subst hz0 hz1 hz2 hz3
  refine Ok.go (e := me_25) rfl rfl (Nat.le_of_ble_eq_true rfl) hM.c ?_
  refine Rf.go 300 [] ?_
  refine H10_2 (d := d) (s := l) (t := m)  hK hM hA rfl rfl rfl (by omega) (by omega) hL0 hL1 hM0 hM1 (by omega) (fun z1 z2 => ?_) (fun z3 => ?_)
  · refine And.intro (fun hb => absurd hb (by decide)) (fun _ => ?_)
    refine H10_3 (d := d) (s := l) (t := m)  hK hM hA rfl rfl rfl (by omega) (by omega) hL0 hL1 hL2 hM0 hM1 hM2 (by omega) (fun z4 z5 z6 => ?_) (fun z7 => ?_)
    · refine And.intro (fun hb => absurd hb (by decide)) (fun _ => ?_)
      rw [mlF_1 ⟨z1, z2⟩ z6] at hp
      exact ⟨rfl, hp I J (OutC.no (by decide) hA) (fun a h1 h2 h3 => rfl)⟩
    · refine And.intro (fun _ => ?_) (fun hb => absurd (by decide) hb)
      rw [mlF_2 ⟨z1, z2⟩ (fun w => z7 ⟨z1, z2, w⟩)] at hp
      exact ⟨rfl, hp I J (OutC.no (by decide) hA) (fun a h1 h2 h3 => rfl)⟩
  · refine And.intro (fun _ => ?_) (fun hb => absurd (by decide) hb)
    refine And.intro (fun hb => absurd hb (by decide)) (fun _ => ?_)
    rw [mlF_3 z3 (by decide)] at hp
    exact ⟨rfl, hp I J (OutC.no (by decide) hA) (fun a h1 h2 h3 => rfl)⟩
set_option maxHeartbeats 4000000 in
theorem H24t_0 [NeZero p] {t l c : Nat} {A B C X Y S : TR p D h} {post : Option Value → Me → Prop} (hK : Ksp K) (hM : HsM M o) (hA : TwA I (o + 1) p h D) (ht : t < 60) (hl : l ≤ 60) (hc : c < t) (hlt : t ≠ l) (hA0 : Re I p D h (o + 26 + 3 * l + 0) A) (hB0 : Re I p D h (o + 26 + 3 * l + 1) B) (hC0 : Re I p D h (o + 26 + 3 * l + 2) C) (hX0 : Re I p D h (o + 26 + 3 * c + 0) X) (hY0 : Re I p D h (o + 26 + 3 * c + 1) Y) (hS0 : Re I p D h (o + 26 + 3 * c + 2) S) (hp : ∀ I1 J1, OutC I1 o p t 2 (mtF p D h A B C X Y S 0) → FrC I I1 o t → post (some (.int (mtF p D h A B C X Y S 0).1)) (St M I1 J1)) : Rf K (d + 9) mc_24 82 (lk [(0, .ref o), (1, .int (nI t)), (5, .int (nI 0)), (8, .int (nI l)), (9, .int (nI c))]) [] (St M I J) (fun r M1 => rok me_24.2.2.2.1 r = true ∧ post r M1) := by
  refine Rf.go 300 [] ?_
  refine H29 (d := d) (l := l) (c := c) hK hM hA rfl rfl (by omega) (by omega) hA0 hB0 hC0 hX0 hY0 hS0 (by omega) (fun I1 J1 q1_0 q1_1 q1_2 q1_3 f1 => ?_)
  refine And.intro hM.c ⟨o + 1, hM.r0, ?_⟩
  refine And.intro hM.c ⟨o + 212, hM.r5, ?_⟩
  have hA2 := (hA).keep (fun a h1 h2 => f1 a (by omega) (by omega) (by omega) (by omega) (by omega) (by omega))
  refine (t_isZeroE (d := d) hM.tc (hM.rc (by omega)) hA2.1.2.2.1 hA2.1.2.2.2.1.2 q1_1).up (by omega) ?_
  rintro r M1 ⟨rfl, (⟨z3, rfl⟩ | ⟨z3, rfl⟩)⟩
  · refine And.intro (fun hb => absurd hb (by decide)) (fun _ => ?_)
    refine H30_0 (d := d) hK hM hA2 rfl q1_2 q1_3 (by omega) (fun u5 v6 => ?_) (fun u5 v6 => ?_) (fun u5 I4 J4 q4 f4 => ?_)
    · refine And.intro (fun _ => ?_) (fun hb => absurd (by decide) hb)
      rw [mtF_1 z3 u5 v6] at hp
      exact ⟨rfl, hp I1 J1 (OutC.no (by decide) hA2) (fun a h1 h2 h3 => (f1 a (by omega) (by omega) (by omega) (by omega) (by omega) (by omega)))⟩
    · refine And.intro (fun _ => ?_) (fun hb => absurd (by decide) hb)
      rw [mtF_2 z3 u5 v6] at hp
      exact ⟨rfl, hp I1 J1 (OutC.no (by decide) hA2) (fun a h1 h2 h3 => (f1 a (by omega) (by omega) (by omega) (by omega) (by omega) (by omega)))⟩
    · refine And.intro (fun hb => absurd hb (by decide)) (fun _ => ?_)
      have q7 := ((hB0).keep (f1 _ (by omega) (by omega) (by omega) (by omega) (by omega) (by omega))).keep (f4 _ (by omega) (by omega) (by omega) (by omega))
      have q8 := ((hC0).keep (f1 _ (by omega) (by omega) (by omega) (by omega) (by omega) (by omega))).keep (f4 _ (by omega) (by omega) (by omega) (by omega))
      have q9 := (q1_0).keep (f4 _ (by omega) (by omega) (by omega) (by omega))
      have hA10 := (hA2).keep (fun a h1 h2 => f4 a (by omega) (by omega) (by omega) (by omega))
      refine H32 (d := d) (t := t) (l := l) hK hM hA10 rfl rfl (by omega) (by omega) (by omega) q7 q8 q9 q4 (by omega) (fun I11 J11 q11_0 q11_1 f11 => ?_)
      have hA12 := (hA10).keep (fun a h1 h2 => f11 a (by omega) (by omega))
      rw [mtF_4 z3 u5 rfl] at hp
      exact ⟨rfl, hp I11 J11 (OutC.r2 hA12 q11_0 q11_1) (fun a h1 h2 h3 => (((f11 a (by omega) (by omega)).trans (f4 a (by omega) (by omega) (by omega) (by omega))).trans (f1 a (by omega) (by omega) (by omega) (by omega) (by omega) (by omega))))⟩
  · refine And.intro (fun _ => ?_) (fun hb => absurd (by decide) hb)
    refine H31_0 (d := d) hK hM hA2 rfl q1_1 q1_2 q1_3 (X0 := diE p D h A B C X Y S) rfl (by omega) (fun v15 I13 J13 hA16 q13 f13 => ?_) (fun v15 I13 J13 hA16 f13 => ?_)
    · refine And.intro (fun hb => absurd hb (by decide)) (fun _ => ?_)
      have q17 := (((Re.cv (D' := (gB p D h (diE p D h A B C X Y S))) (h := (gH p D h (diE p D h A B C X Y S))) gH_le.1 hB0)).keep (f1 _ (by omega) (by omega) (by omega) (by omega) (by omega) (by omega))).keep (f13 _ (by omega) (by omega) (by omega) (by omega) (by omega))
      have q18 := (((Re.cv (D' := (gB p D h (diE p D h A B C X Y S))) (h := (gH p D h (diE p D h A B C X Y S))) gH_le.1 hC0)).keep (f1 _ (by omega) (by omega) (by omega) (by omega) (by omega) (by omega))).keep (f13 _ (by omega) (by omega) (by omega) (by omega) (by omega))
      have q19 := ((Re.cv (D' := (gB p D h (diE p D h A B C X Y S))) (h := (gH p D h (diE p D h A B C X Y S))) gH_le.1 q1_0)).keep (f13 _ (by omega) (by omega) (by omega) (by omega) (by omega))
      refine H32 (d := d) (t := t) (l := l) hK hM hA16 rfl rfl (by omega) (by omega) (by omega) q17 q18 q19 q13 (by omega) (fun I20 J20 q20_0 q20_1 f20 => ?_)
      have hA21 := (hA16).keep (fun a h1 h2 => f20 a (by omega) (by omega))
      rw [mtF_6 z3 (fun w => w.2 rfl) v15] at hp
      exact ⟨rfl, hp I20 J20 (OutC.r2 hA21 q20_0 q20_1) (fun a h1 h2 h3 => (((f20 a (by omega) (by omega)).trans (f13 a (by omega) (by omega) (by omega) (by omega) (by omega))).trans (f1 a (by omega) (by omega) (by omega) (by omega) (by omega) (by omega))))⟩
    · refine And.intro (fun _ => ?_) (fun hb => absurd (by decide) hb)
      rw [mtF_7 z3 (fun w => w.2 rfl) v15] at hp
      exact ⟨rfl, hp I13 J13 (OutC.no (by decide) hA16) (fun a h1 h2 h3 => ((f13 a (by omega) (by omega) (by omega) (by omega) (by omega)).trans (f1 a (by omega) (by omega) (by omega) (by omega) (by omega) (by omega))))⟩
set_option maxHeartbeats 4000000 in
theorem H24t_1 [NeZero p] {t l c : Nat} {A B C X Y S : TR p D h} {post : Option Value → Me → Prop} (hK : Ksp K) (hM : HsM M o) (hA : TwA I (o + 1) p h D) (ht : t < 60) (hl : l ≤ 60) (hc : c < t) (hlt : t ≠ l) (hA0 : Re I p D h (o + 26 + 3 * l + 0) A) (hB0 : Re I p D h (o + 26 + 3 * l + 1) B) (hC0 : Re I p D h (o + 26 + 3 * l + 2) C) (hX0 : Re I p D h (o + 26 + 3 * c + 0) X) (hY0 : Re I p D h (o + 26 + 3 * c + 1) Y) (hS0 : Re I p D h (o + 26 + 3 * c + 2) S) (hp : ∀ I1 J1, OutC I1 o p t 2 (mtF p D h A B C X Y S 1) → FrC I I1 o t → post (some (.int (mtF p D h A B C X Y S 1).1)) (St M I1 J1)) : Rf K (d + 9) mc_24 82 (lk [(0, .ref o), (1, .int (nI t)), (5, .int (nI 1)), (8, .int (nI l)), (9, .int (nI c))]) [] (St M I J) (fun r M1 => rok me_24.2.2.2.1 r = true ∧ post r M1) := by
  refine Rf.go 300 [] ?_
  refine H29 (d := d) (l := l) (c := c) hK hM hA rfl rfl (by omega) (by omega) hA0 hB0 hC0 hX0 hY0 hS0 (by omega) (fun I1 J1 q1_0 q1_1 q1_2 q1_3 f1 => ?_)
  refine And.intro hM.c ⟨o + 1, hM.r0, ?_⟩
  refine And.intro hM.c ⟨o + 212, hM.r5, ?_⟩
  have hA2 := (hA).keep (fun a h1 h2 => f1 a (by omega) (by omega) (by omega) (by omega) (by omega) (by omega))
  refine (t_isZeroE (d := d) hM.tc (hM.rc (by omega)) hA2.1.2.2.1 hA2.1.2.2.2.1.2 q1_1).up (by omega) ?_
  rintro r M1 ⟨rfl, (⟨z3, rfl⟩ | ⟨z3, rfl⟩)⟩
  · refine And.intro (fun hb => absurd hb (by decide)) (fun _ => ?_)
    refine H30_1 (d := d) hK hM hA2 rfl q1_2 q1_3 (by omega) (fun u5 v6 => ?_) (fun u5 v6 => ?_) (fun u5 => ?_)
    · refine And.intro (fun _ => ?_) (fun hb => absurd (by decide) hb)
      rw [mtF_1 z3 u5 v6] at hp
      exact ⟨rfl, hp I1 J1 (OutC.no (by decide) hA2) (fun a h1 h2 h3 => (f1 a (by omega) (by omega) (by omega) (by omega) (by omega) (by omega)))⟩
    · refine And.intro (fun _ => ?_) (fun hb => absurd (by decide) hb)
      rw [mtF_2 z3 u5 v6] at hp
      exact ⟨rfl, hp I1 J1 (OutC.no (by decide) hA2) (fun a h1 h2 h3 => (f1 a (by omega) (by omega) (by omega) (by omega) (by omega) (by omega)))⟩
    · refine And.intro (fun _ => ?_) (fun hb => absurd (by decide) hb)
      rw [mtF_3 z3 u5 (by decide)] at hp
      exact ⟨rfl, hp I1 J1 (OutC.no (by decide) hA2) (fun a h1 h2 h3 => (f1 a (by omega) (by omega) (by omega) (by omega) (by omega) (by omega)))⟩
  · refine And.intro (fun _ => ?_) (fun hb => absurd (by decide) hb)
    refine H31_1 (d := d) hK hM hA2 rfl q1_1 q1_2 q1_3 (X0 := diE p D h A B C X Y S) rfl (by omega) (fun u8 I7 J7 f7 => ?_) (fun u8 v9 I7 J7 hA10 q7 f7 => ?_) (fun u8 v9 I7 J7 hA10 f7 => ?_)
    · refine And.intro (fun _ => ?_) (fun hb => absurd (by decide) hb)
      have hA11 := (hA2).keep (fun a h1 h2 => f7 a (by omega) (by omega))
      rw [mtF_5 z3 u8 (by decide)] at hp
      exact ⟨rfl, hp I7 J7 (OutC.no (by decide) hA11) (fun a h1 h2 h3 => ((f7 a (by omega) (by omega)).trans (f1 a (by omega) (by omega) (by omega) (by omega) (by omega) (by omega))))⟩
    · refine And.intro (fun hb => absurd hb (by decide)) (fun _ => ?_)
      have q12 := (((Re.cv (D' := (gB p D h (diE p D h A B C X Y S))) (h := (gH p D h (diE p D h A B C X Y S))) gH_le.1 hB0)).keep (f1 _ (by omega) (by omega) (by omega) (by omega) (by omega) (by omega))).keep (f7 _ (by omega) (by omega) (by omega) (by omega) (by omega))
      have q13 := (((Re.cv (D' := (gB p D h (diE p D h A B C X Y S))) (h := (gH p D h (diE p D h A B C X Y S))) gH_le.1 hC0)).keep (f1 _ (by omega) (by omega) (by omega) (by omega) (by omega) (by omega))).keep (f7 _ (by omega) (by omega) (by omega) (by omega) (by omega))
      have q14 := ((Re.cv (D' := (gB p D h (diE p D h A B C X Y S))) (h := (gH p D h (diE p D h A B C X Y S))) gH_le.1 q1_0)).keep (f7 _ (by omega) (by omega) (by omega) (by omega) (by omega))
      refine H32 (d := d) (t := t) (l := l) hK hM hA10 rfl rfl (by omega) (by omega) (by omega) q12 q13 q14 q7 (by omega) (fun I15 J15 q15_0 q15_1 f15 => ?_)
      have hA16 := (hA10).keep (fun a h1 h2 => f15 a (by omega) (by omega))
      rw [mtF_6 z3 (fun w => u8 w.1) v9] at hp
      exact ⟨rfl, hp I15 J15 (OutC.r2 hA16 q15_0 q15_1) (fun a h1 h2 h3 => (((f15 a (by omega) (by omega)).trans (f7 a (by omega) (by omega) (by omega) (by omega) (by omega))).trans (f1 a (by omega) (by omega) (by omega) (by omega) (by omega) (by omega))))⟩
    · refine And.intro (fun _ => ?_) (fun hb => absurd (by decide) hb)
      rw [mtF_7 z3 (fun w => u8 w.1) v9] at hp
      exact ⟨rfl, hp I7 J7 (OutC.no (by decide) hA10) (fun a h1 h2 h3 => ((f7 a (by omega) (by omega) (by omega) (by omega) (by omega)).trans (f1 a (by omega) (by omega) (by omega) (by omega) (by omega) (by omega))))⟩
end H6
