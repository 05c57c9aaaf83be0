theorem pst_iload {K : Ka} {k i : Nat} {lv : Lv} {st : List Value} {M : Me} {z : Nat × Lv × List Value × Me} (h : pst K (.iload i) k lv st M = some z) : ∃ x, lget lv i = some (.int x) ∧ some (k + 1, lv, .int x :: st, M) = some z := by
  change (match lget lv i with
    | some (.int x) => some (k + 1, lv, Value.int x :: st, M)
    | _ => none) = some z at h
  split at h
  · exact ⟨_, by assumption, h⟩
  · cases h
theorem pst_lload {K : Ka} {k i : Nat} {lv : Lv} {st : List Value} {M : Me} {z : Nat × Lv × List Value × Me} (h : pst K (.lload i) k lv st M = some z) : ∃ x, lget lv i = some (.long x) ∧ some (k + 1, lv, .long x :: st, M) = some z := by
  change (match lget lv i with
    | some (.long x) => some (k + 1, lv, Value.long x :: st, M)
    | _ => none) = some z at h
  split at h
  · exact ⟨_, by assumption, h⟩
  · cases h
theorem pst_aload {K : Ka} {k i : Nat} {lv : Lv} {st : List Value} {M : Me} {z : Nat × Lv × List Value × Me} (h : pst K (.aload i) k lv st M = some z) : ∃ x, lget lv i = some (.ref x) ∧ some (k + 1, lv, .ref x :: st, M) = some z := by
  change (match lget lv i with
    | some (.ref x) => some (k + 1, lv, Value.ref x :: st, M)
    | _ => none) = some z at h
  split at h
  · exact ⟨_, by assumption, h⟩
  · cases h
theorem pst_iinc {K : Ka} {k i : Nat} {n : Int} {lv : Lv} {st : List Value} {M : Me} {z : Nat × Lv × List Value × Me} (h : pst K (.iinc i n) k lv st M = some z) : ∃ x, lget lv i = some (.int x) ∧ some (k + 1, lset1 lv i (.int (x + Int32.ofInt n)), st, M) = some z := by
  change (match lget lv i with
    | some (.int x) => some (k + 1, lset1 lv i (.int (x + Int32.ofInt n)), st, M)
    | _ => none) = some z at h
  split at h
  · exact ⟨_, by assumption, h⟩
  · cases h
theorem cats_m (X : Wp) (st : List Value) : ((st.map (vmp X)).map fun v => v.category) = st.map fun v => v.category := by
  rw [List.map_map]
  exact List.map_congr_left (fun v _ => vmp_cat X v)
theorem nf_lt (c : Nat) : nf c < 100 := by
  unfold nf
  split <;> omega
theorem tx_own {ci f : Nat} (h : ci < 6) (hf : f < nf ci) : (TXf ci f).1 = cnm ci := by
  rcases (show ci = 0 ∨ ci = 1 ∨ ci = 2 ∨ ci = 3 ∨ ci = 4 ∨ ci = 5 by omega) with rfl | rfl | rfl | rfl | rfl | rfl
  · exact (by decide : ∀ f, f < 5 → (TX0 f).1 = cnm 0) f hf
  · exact (by decide : ∀ f, f < 12 → (TX1 f).1 = cnm 1) f hf
  · exact (by decide : ∀ f, f < 3 → (TX2 f).1 = cnm 2) f hf
  · exact (by decide : ∀ f, f < 13 → (TX3 f).1 = cnm 3) f hf
  · exact (by decide : ∀ f, f < 6 → (TX4 f).1 = cnm 4) f hf
  · exact (by decide : ∀ f, f < 23 → (TX5 f).1 = cnm 5) f hf
theorem math_w : (decide (Cond.static Lib.Math.max.name ∈ lw_tbl) && (decide (Cond.initialized "java/lang/Math" ∈ lw_tbl) && (decide (Cond.code Lib.Math.max.name Lib.Math.max.code 2 (some .int) ∈ lw_tbl) && (decide (Cond.static Lib.Math.min.name ∈ lw_tbl) && decide (Cond.code Lib.Math.min.name Lib.Math.min.code 2 (some .int) ∈ lw_tbl))))) = true := by decide +kernel
theorem math_max : Cond.static Lib.Math.max.name ∈ gw ∧ Cond.initialized "java/lang/Math" ∈ gw ∧ Cond.code Lib.Math.max.name Lib.Math.max.code 2 (some .int) ∈ gw := by
  have h := math_w
  simp only [Bool.and_eq_true, decide_eq_true_eq] at h
  exact ⟨List.mem_filter.mpr ⟨h.1, rfl⟩, List.mem_filter.mpr ⟨h.2.1, rfl⟩, List.mem_filter.mpr ⟨h.2.2.1, rfl⟩⟩
theorem math_min : Cond.static Lib.Math.min.name ∈ gw ∧ Cond.initialized "java/lang/Math" ∈ gw ∧ Cond.code Lib.Math.min.name Lib.Math.min.code 2 (some .int) ∈ gw := by
  have h := math_w
  simp only [Bool.and_eq_true, decide_eq_true_eq] at h
  exact ⟨List.mem_filter.mpr ⟨h.2.2.2.1, rfl⟩, List.mem_filter.mpr ⟨h.2.1, rfl⟩, List.mem_filter.mpr ⟨h.2.2.2.2, rfl⟩⟩
section Snd
variable {p : Program} {l : Launch} {e : Env} {R : Room} {s : State} {m : MethodId} {args : Array Value} {below : List Frame} {meth : Method} {c : Code} {H : Heap} {locs : List Loc} {cells slots : Nat} {Q : State → Prop}
variable {pc : Nat} {ls : Array Slot} {rest : List Value} {cc : ByteArray}
theorem fmod_ok (hx : p.tables.exec = Jvm.exec) (hb : c.code = cc) (hml : c.maxLocals = ls.size) {own : String} {index : Nat} (hown : s.vm.findClass own = some m.cls) (hlink : (Cond.methodLink own index (me jMfloorMod).1).before args s = true) (hts : ∀ w ∈ gw, w.before args s = true) (hframes : 1 ≤ R.frames) (hlocals : (rest.map fun v => v.category).sum + 14 ≤ R.locals) (hc : cells ≤ R.cells) (hs : slots ≤ R.slots) {x y : Int32} (hy : ¬ y = 0) (hdg : decode cc pc = .ok (.invokestatic index, 3))
    (kk : W p l e R s m args below meth c H locs cells slots Q (F0 m (pc + 3) ls (.int (if (x ^^^ y) < 0 ∧ ¬ (x - x / y * y) = 0 then (x - x / y * y) + y else (x - x / y * y)) :: rest))) : W p l e R s m args below meth c H locs cells slots Q (F0 m pc ls (.int y :: .int x :: rest)) := by
  intro T hT X
  obtain ⟨vm', X', st⟩ := fm_V X hx hown hlink (hts _ fm_gw.1) (hts _ fm_gw.2.1) (hts _ fm_gw.2.2) (g := F0 m pc ls (.int y :: .int x :: rest)) rfl (by rw [hml]) (a := x) (b := y) hy (rest := rest) rfl (by rw [hb]; exact hdg) hframes (by show 2 * 0 + _ + 14 ≤ _; omega) hc hs
  obtain ⟨t, a1, b1⟩ := kk (T.setVm vm') hT X'
  exact ⟨t, st t a1, b1⟩
theorem aald_ok {D : va_G} {cl : List vw_C} {a : Nat} {tys : List (ClassId × FieldType)} {ws : va_W} (hexec : p.tables.exec = Jvm.exec) (hb : c.code = cc) (hK : va_K D cl tys s) (hP : va_P D cl ws H) (q0 t0 : Nat) {cA : ClassId} {ty : FieldType} {n : Nat} {f : Nat → Option Nat} (ha : ws[q0]? = some (a, .inl (cA, n, .inr (.inr (.inr (.inr f)))))) (ht : tys[t0]? = some (cA, .array ty)) {i : Int32} (hin : vp_in i n) (hdg : decode cc pc = .ok (.aaload, 1))
    (kk : W p l e R s m args below meth c H locs cells slots Q (F0 m (pc + 1) ls (va_rf (f i.toNatClampNeg) :: rest))) : W p l e R s m args below meth c H locs cells slots Q (F0 m pc ls (.int i :: .ref a :: rest)) := by
  have hlt : i.toNatClampNeg < n := Nat.not_le.mp fun q => hin (Or.inr q)
  exact W.aald (v := va_rf (f i.toNatClampNeg)) (ty := .array ty) hexec hb (hP q0 _ ha) ((hK.2 t0 _ ht).1 n (fun j => va_rf (f j))) rfl (fun q => by cases q) (by show ¬ (i < 0 ∨ (arrV _ _ _).slots.size ≤ _); rw [arrV_size]; exact hin) (by show (arrV _ _ _).slots[_]? = _; rw [arrV_read _ _ hlt]) rfl rfl hdg kk
theorem fits_int {ci f : Nat} {x : Int32} (h : fso ci f = 0 ∨ (fso ci f = 1 ∧ (x = 0 ∨ x = 1))) : narrow (tyf ci f) (.int x) = .int x ∧ fits (tyf ci f) (.int x) = true := by
  unfold fso at h
  split at h
  · next e => rw [e]; exact ⟨rfl, rfl⟩
  · next e =>
    rw [e]
    rcases h with h | ⟨-, rfl | rfl⟩
    · cases h
    · exact ⟨rfl, rfl⟩
    · exact ⟨rfl, rfl⟩
  · rcases h with h | h
    · cases h
    · cases h.1
theorem fso_2 {ci f : Nat} (hc : ci < 6) (hf : f < nf ci) (h : fso ci f = 2) : (∃ n, tyf ci f = .object n) ∨ ∃ t, tyf ci f = .array t := by
  have g : ∀ t : FieldType, (match t with | .int => 0 | .boolean => 1 | _ => 2) = 2 → (match t with | .int => true | .boolean => true | .object _ => true | .array _ => true | _ => false) = true → (∃ n, t = .object n) ∨ ∃ u, t = .array u := by
    intro t h1 h2
    cases t <;> first | exact Or.inl ⟨_, rfl⟩ | exact Or.inr ⟨_, rfl⟩ | exact absurd h1 (by decide) | exact absurd h2 (by decide)
  refine g (tyf ci f) h ?_
  rcases (show ci = 0 ∨ ci = 1 ∨ ci = 2 ∨ ci = 3 ∨ ci = 4 ∨ ci = 5 by omega) with rfl | rfl | rfl | rfl | rfl | rfl
  · exact (by decide : ∀ f, f < 5 → (match tyX0 f with | .int => true | .boolean => true | .object _ => true | .array _ => true | _ => false) = true) f hf
  · exact (by decide : ∀ f, f < 12 → (match tyX1 f with | .int => true | .boolean => true | .object _ => true | .array _ => true | _ => false) = true) f hf
  · exact (by decide : ∀ f, f < 3 → (match tyX2 f with | .int => true | .boolean => true | .object _ => true | .array _ => true | _ => false) = true) f hf
  · exact (by decide : ∀ f, f < 13 → (match tyX3 f with | .int => true | .boolean => true | .object _ => true | .array _ => true | _ => false) = true) f hf
  · exact (by decide : ∀ f, f < 6 → (match tyX4 f with | .int => true | .boolean => true | .object _ => true | .array _ => true | _ => false) = true) f hf
  · exact (by decide : ∀ f, f < 23 → (match tyX5 f with | .int => true | .boolean => true | .object _ => true | .array _ => true | _ => false) = true) f hf
theorem fits_ref {ci f : Nat} (b : Nat) (hc : ci < 6) (hf : f < nf ci) (h : fso ci f = 2) : narrow (tyf ci f) (.ref b) = .ref b ∧ fits (tyf ci f) (.ref b) = true := by
  rcases fso_2 hc hf h with ⟨n, e⟩ | ⟨t, e⟩ <;> rw [e] <;> exact ⟨rfl, rfl⟩
theorem map_set {β : Type} {n f : Nat} {g g1 : Nat → β} {v : β} (h1 : g1 f = v) (h2 : ∀ i, i ≠ f → g1 i = g i) : ((List.range n).map g).set f v = (List.range n).map g1 := by
  refine List.ext_getElem? (fun i => ?_)
  rw [List.getElem?_set, List.getElem?_map, List.getElem?_map]
  by_cases hi : i < n
  · rw [List.getElem?_range hi]
    by_cases e : f = i
    · subst e
      rw [if_pos rfl, if_pos (by simpa using hi)]
      exact congrArg some h1.symm
    · rw [if_neg e]
      exact congrArg some (h2 i (fun q => e q.symm)).symm
  · rw [List.getElem?_eq_none (l := List.range n) (by simpa using hi)]
    by_cases e : f = i
    · rw [if_pos e, if_neg (by simp; omega)]; rfl
    · rw [if_neg e]; rfl
theorem cell_putI {X : Wp} {M : Me} {a ci f : Nat} {x : Int32} (ha : isC M a ci = true) (hc : ci < 6) (hf : f < nf ci) (hz : fso ci f = 0 ∨ (fso ci f = 1 ∧ (x = 0 ∨ x = 1))) : cellE X (wI M (u2 (mI M) a f x)) a = .inr (ci, ((List.range (nf ci)).map (fun f => vmp X (fval M a ci f))).set f (.int x)) := by
  have hne : ¬ fso ci f = 2 := by omega
  rw [cell_o (X := X) (M := wI M (u2 (mI M) a f x)) (a := a) (isC_iff ha).2.2 hc, map_set (v := Value.int x) (f := f) (g1 := fun f2 => vmp X (fval (wI M (u2 (mI M) a f x)) a ci f2))]
  · show vmp X (if fso ci f = 2 then _ else _) = _
    rw [if_neg hne]
    show vmp X (Value.int (u2 (mI M) a f x a f)) = _
    rw [u2_eq]
    simp [va_up, vmp]
  · intro i hi
    show vmp X (if fso ci i = 2 then _ else Value.int (u2 (mI M) a f x a i)) = vmp X (if fso ci i = 2 then _ else Value.int (mI M a i))
    rw [u2_eq]
    simp [va_up, hi]
    rfl
theorem cell_putR {X : Wp} {M : Me} {a ci f b : Nat} (ha : isC M a ci = true) (hc : ci < 6) (hf : f < nf ci) (hz : fso ci f = 2) : cellE X (wR M (u2 (mR M) a f (some b))) a = .inr (ci, ((List.range (nf ci)).map (fun f => vmp X (fval M a ci f))).set f (.ref (adr X b))) := by
  rw [cell_o (X := X) (M := wR M (u2 (mR M) a f (some b))) (a := a) (isC_iff ha).2.2 hc, map_set (v := Value.ref (adr X b)) (f := f) (g1 := fun f2 => vmp X (fval (wR M (u2 (mR M) a f (some b))) a ci f2))]
  · show vmp X (if fso ci f = 2 then rfv (u2 (mR M) a f (some b) a f) else _) = _
    rw [if_pos hz, u2_eq]
    simp [va_up, rfv, vmp]
  · intro i hi
    show vmp X (if fso ci i = 2 then rfv (u2 (mR M) a f (some b) a i) else _) = vmp X (if fso ci i = 2 then rfv (mR M a i) else _)
    rw [u2_eq]
    simp [va_up, hi]
    rfl
theorem ab_adr {X : Wp} {M : Me} {a t : Nat} (h : isC M a t = true) : Ab X (adr X a) := by
  rw [adr_c (isC_iff h).1]
  exact Nat.le_add_right _ _
theorem hp_put {X : Wp} {M M1 : Me} {a t : Nat} {H H1 : Heap} (ha : isC M a t = true) (hH : Hp X M H) (hn : mN M1 = mN M) (ho : ∀ b, b ≠ a → cellE X M1 b = cellE X M b) (he : va_at X.1 kl (adr X a, cellE X M1 a) H1) (z : H1.size = H.size) (oq : ∀ q : Nat, q ≠ adr X a → H1[q]? = H[q]?) : Hp X M1 H1 := by
  refine ⟨by rw [z, hH.1, hn], ?_⟩
  rw [← ws_set ha hn rfl ho]
  exact hH.2.set (wsM_D X M) (ws_at ha) he oq
theorem st_i {X : Wp} {M : Me} {a : Nat} {j x : Int32} {H1 : Heap} (ha : isC M a 10 = true) (e : H1[adr X a]? = some ((vp_cell X.2.1.1 ((mH M a).2, .inl (mI M a))).setSlot j.toNatClampNeg (.int x))) : va_at X.1 kl (adr X a, cellE X (wI M (u2 (mI M) a j.toNatClampNeg x)) a) H1 := by
  rw [cell_10 (M := wI M (u2 (mI M) a j.toNatClampNeg x)) (a := a) (isC_iff ha).2.2]
  show H1[adr X a]? = some (vp_cell _ (_, .inl (u2 (mI M) a j.toNatClampNeg x a)))
  rw [e, u2_eq, vp_cell_i, vp_cell_i, arrV_store]
  congr 2
  funext q
  by_cases hq : q = j.toNatClampNeg
  · subst hq
    simp [updV, va_up]
  · simp [updV, va_up, hq]
theorem st_z {X : Wp} {M : Me} {a : Nat} {j x : Int32} {H1 : Heap} (ha : isC M a 12 = true) (e : H1[adr X a]? = some ((vp_cell X.2.1.2.2.1 ((mH M a).2, .inl (mI M a))).setSlot j.toNatClampNeg (narrow .boolean (.int x)))) (hx : x = 0 ∨ x = 1) : va_at X.1 kl (adr X a, cellE X (wI M (u2 (mI M) a j.toNatClampNeg x)) a) H1 := by
  have hn : narrow .boolean (.int x) = .int x := by rcases hx with rfl | rfl <;> rfl
  rw [cell_12 (M := wI M (u2 (mI M) a j.toNatClampNeg x)) (a := a) (isC_iff ha).2.2]
  show H1[adr X a]? = some (vp_cell _ (_, .inl (u2 (mI M) a j.toNatClampNeg x a)))
  rw [e, u2_eq, vp_cell_i, vp_cell_i, hn, arrV_store]
  congr 2
  funext q
  by_cases hq : q = j.toNatClampNeg
  · subst hq
    simp [updV, va_up]
  · simp [updV, va_up, hq]
theorem st_l {X : Wp} {M : Me} {a : Nat} {j : Int32} {x : Int64} {H1 : Heap} (ha : isC M a 11 = true) (e : H1[adr X a]? = some ((vp_cell X.2.1.2.1 ((mH M a).2, .inr (.inl (mJ M a)))).setSlot j.toNatClampNeg (.long x))) : va_at X.1 kl (adr X a, cellE X (wJ M (u2 (mJ M) a j.toNatClampNeg x)) a) H1 := by
  rw [cell_11 (M := wJ M (u2 (mJ M) a j.toNatClampNeg x)) (a := a) (isC_iff ha).2.2]
  show H1[adr X a]? = some (vp_cell _ (_, .inr (.inl (u2 (mJ M) a j.toNatClampNeg x a))))
  rw [e, u2_eq, vp_cell_l, vp_cell_l, arrV_store]
  congr 2
  funext q
  by_cases hq : q = j.toNatClampNeg
  · subst hq
    simp [updV, va_up]
  · simp [updV, va_up, hq]
theorem put_ok {K : Ka} {X : Wp} {M M1 : Me} {own : String} {index a ci f : Nat} {v : Value} (hexec : p.tables.exec = Jvm.exec) (hb : c.code = cc) (hown : s.vm.findClass own = some m.cls) (hts : ∀ w ∈ gw, w.before args s = true) (hE : Ev K X s) (hH : Hp X M H) (hS0 : va_S (Ab X) s.heap H locs) (ha : isC M a ci = true) (hc6 : ci < 6) (hf : f < nf ci)
    (hlink : (Cond.fieldLink own index (TXf ci f).1 (TXf ci f).2.1 (TXf ci f).2.2.1).before args s = true) (hfin : (TXf ci f).2.2.2 = false ∨ (meth.name = "<init>" ∧ (TXf ci f).1 = own)) (hn : narrow (tyf ci f) v = v) (hfit : fits (tyf ci f) v = true) (hM1 : mN M1 = mN M) (ho : ∀ b, b ≠ a → cellE X M1 b = cellE X M b) (hce : cellE X M1 a = .inr (ci, ((List.range (nf ci)).map (fun f => vmp X (fval M a ci f))).set f v)) (hdg : decode cc pc = .ok (.putfield index, 3))
    (kk : ∀ (H1 : Heap) (locs1 : List Loc), Hp X M1 H1 → va_S (Ab X) s.heap H1 locs1 → W p l e R s m args below meth c H1 locs1 cells slots Q (F0 m (pc + 3) ls rest)) : W p l e R s m args below meth c H locs cells slots Q (F0 m pc ls (v :: .ref (adr X a) :: rest)) := by
  have he : (wsM X M)[a - 8]? = some (adr X a, .inr (ci, (List.range (nf ci)).map (fun f => vmp X (fval M a ci f)))) := by rw [ws_at ha, cell_o (isC_iff ha).2.2 hc6]
  have hl : f < ((List.range (nf ci)).map (fun f => vmp X (fval M a ci f))).length := by simpa using hf
  have hap := va_apart (own := own) hts (lay_f hc6) (tyf ci) (ty_f hc6) (nm_f hc6) hE.1 (kl_at hc6)
  obtain ⟨r, h1, cell, q1, q2, q3, q4⟩ := hH.2 (a - 8) _ he
  have hr : r = (RXf ci, TXf ci, nf ci) := Option.some.inj (h1.symm.trans (kl_at hc6))
  subst hr
  obtain ⟨hSl, hfc, kC, hkC, hkind⟩ := hE.1.1 ci _ (kl_at hc6)
  obtain ⟨cf, kf, fi, fd, hi, hsl⟩ := hSl f hf
  have hlay := hts _ (lay_f hc6 _ (u_in_lay hf))
  have hst := (u_facts hfc hkC (u_lays hts (lay_f hc6) hf) hi).1
  have fin : ∀ H' : Heap, H'[adr X a]? = some (cell.setSlot fd.slot v) → H'.size = H.size → (∀ q, q ≠ adr X a → H'[q]? = H[q]?) → W p l e R s m args below meth c H' (locs ++ [⟨adr X a, fd.slot⟩]) cells slots Q (F0 m (pc + 3) ls rest) := by
    intro H' e1 e2 e3
    rw [hsl] at e1
    refine kk H' _ (hp_put ha hH hM1 ho ?_ e2 e3) (hS0.put e2 e3 (ab_adr ha))
    rw [hce]
    exact ⟨_, kl_at hc6, t_OB.to (V := updV (vp_V _) f v) ⟨_, e1, q2, q3, t_set q4 hap hf v⟩ (fun j _ => vp_updV_set hl v j)⟩
  by_cases hfb : (TXf ci f).2.2.2 = false
  · unfold u_lay at hlay
    rw [if_neg (by rw [hfb]; decide)] at hlay
    have h6 := u_store hfc hkC hkind hlay hi (ty_f hc6 f hf) hn hfit
    exact W.putK hexec hb (f := fd) ⟨hown, hlink, ⟨_, _, _, hi⟩, hst⟩ (by rw [q2]; exact h6) q1 q3 (by rw [hsl]; exact k2_hasslot (q4 f hf)) rfl rfl hdg fin
  · have hft : (TXf ci f).2.2.2 = true := by simpa using hfb
    obtain ⟨hin2, hdecl⟩ := hfin.resolve_left hfb
    unfold u_lay at hlay
    rw [if_pos hft] at hlay
    have hcf : m.cls = cf := by
      obtain ⟨_, _, c', _, _, _, -, -, hf', -, -, -, hown2, -⟩ := Cond.laysFinal_spec hlay
      have e1 : c' = cf := by have := hi.symm.trans hf'; simp at this; exact this.1.symm
      rw [hdecl] at hown2
      rw [← e1]; exact Option.some.inj (hown.symm.trans hown2)
    have h6 := u_fits hfc hkC hkind (Or.inr hlay) hi (ty_f hc6 f hf) hn hfit
    exact W.putFinK hexec hb hown hlink hi hst hcf hin2 (by rw [q2]; exact h6) q1 q3 (by rw [hsl]; exact k2_hasslot (q4 f hf)) rfl rfl hdg fin
theorem new_lo {X : Wp} {M : Me} {n w : Nat} {h : Nat → Nat × Nat} {r : Nat → Nat → Option Nat} {b : Nat} (hb : b < 8 + mN M) : cellE X (mNew M n w h r) b = cellE X M b := by
  have hb' : ¬ 8 + mN M ≤ b := by omega
  exact cell_same (if_neg hb') (if_neg hb') (if_neg hb') (if_neg hb')
theorem wsM_app {X : Wp} {M M1 : Me} {n : Nat} (hn : mN M1 = mN M + n) (ho : ∀ b, b < 8 + mN M → cellE X M1 b = cellE X M b) : wsM X M1 = wsM X M ++ (List.range n).map (fun i => (X.2.2.1 + (mN M + i), cellE X M1 (8 + (mN M + i)))) := by
  unfold wsM
  rw [hn, List.range_add, List.map_append, List.map_map]
  congr 1
  exact List.map_congr_left (fun k hk => by rw [ho (8 + k) (by have := List.mem_range.mp hk; omega)])
theorem va_S_new {X : Wp} {H0 H H1 : Heap} {locs : List Loc} {n : Nat} (hbs : X.2.2.1 ≤ H0.size) (hS : va_S (Ab X) H0 H locs) (z : H1.size = H.size + n) (o : ∀ q : Nat, q < H.size → H1[q]? = H[q]?) : va_S (Ab X) H0 H1 locs :=
  ⟨Nat.le_trans hS.1 (by omega), fun x h1 h2 => (o x (Nat.lt_of_lt_of_le h1 hS.1)).trans (hS.2.1 x h1 h2), hS.2.2⟩
theorem hp_app {X : Wp} {M M1 : Me} {H H1 : Heap} {n : Nat} (hH : Hp X M H) (hn : mN M1 = mN M + n) (ho : ∀ b, b < 8 + mN M → cellE X M1 b = cellE X M b) (z : H1.size = H.size + n) (o : ∀ q : Nat, q < H.size → H1[q]? = H[q]?) (hne : ∀ i, i < n → va_at X.1 kl (X.2.2.1 + (mN M + i), cellE X M1 (8 + (mN M + i))) H1) : Hp X M1 H1 := by
  refine ⟨by rw [z, hH.1, hn]; omega, ?_⟩
  rw [wsM_app hn ho]
  refine (hH.2.kept (fun k x hx => o x.1 ((hH.2 k x hx).lt))).app (fun k x hx => ?_)
  have hk : k < n := by
    have := (List.getElem?_eq_some_iff.mp hx).1
    simpa using this
  rw [List.getElem?_map, List.getElem?_range hk] at hx
  cases hx
  exact hne k hk
theorem dflt_f {X : Wp} {M : Me} {a ci j : Nat} (hc : ci < 6) (hj : j < nf ci) (h1 : mI M a j = 0) (h2 : mR M a j = none) : defaultValue (tyf ci j) = vmp X (fval M a ci j) := by
  unfold fval
  rw [h1, h2]
  by_cases h : fso ci j = 2
  · rw [if_pos h]
    rcases fso_2 hc hj h with ⟨n, e⟩ | ⟨t, e⟩ <;> rw [e] <;> rfl
  · rw [if_neg h]
    unfold fso at h
    split at h
    · next e => rw [e]; rfl
    · next e => rw [e]; rfl
    · exact absurd rfl h
theorem hp_new {K : Ka} {X : Wp} {M : Me} {ci : Nat} {H1 : Heap} {kC : Class} (hE : Ev K X s) (hts : ∀ w ∈ gw, w.before args s = true) (hH : Hp X M H) (hv : ci < 6) (hkC : s.vm.classes[X.1.1 ci]? = some kC) (e9 : H1[H.size]? = some (blank (X.1.1 ci) kC)) (z9 : H1.size = H.size + 1) (o9 : ∀ q, q < H.size → H1[q]? = H[q]?) : Hp X (mNew M 1 (nf ci) (fun _ => (ci, 0)) (fun _ _ => none)) H1 := by
  refine hp_app hH rfl (fun b hb => new_lo hb) z9 o9 (fun i hi => ?_)
  obtain rfl : i = 0 := by omega
  have hle : 8 + mN M ≤ 8 + (mN M + 0) := by omega
  rw [cell_o (ci := ci) (by show (if 8 + mN M ≤ 8 + (mN M + 0) then _ else _ : Nat × Nat).1 = ci; rw [if_pos hle]) hv]
  have hKn := hE.1.1 ci _ (kl_at hv)
  refine ⟨_, kl_at hv, ?_⟩
  rw [Nat.add_zero, ← hH.1]
  refine (u_born (tyf ci) hts (lay_f hv) hKn hkC e9 (ty_f hv)).to (fun j hj => ?_)
  rw [vp_V, List.getD_eq_getElem?_getD, List.getElem?_map, List.getElem?_range hj]
  refine dflt_f hv hj ?_ ?_
  · show (if 8 + mN M ≤ 8 + (mN M + 0) then _ else _ : Nat → Int32) j = 0
    rw [if_pos hle]
  · show (if 8 + mN M ≤ 8 + (mN M + 0) then _ else _ : Nat → Option Nat) j = none
    rw [if_pos hle]
theorem lay_at {t : ArrayType} (h : aty t ≠ 0) : Cond.arrayClass (newarray.typeOf t) ∈ gw := by
  cases t <;> first | exact lay_a.1 | exact lay_a.2.1 | exact lay_a.2.2 | exact absurd rfl h
theorem cb_ok {t : ArrayType} {n : Nat} (h : aty t ≠ 0) (hn : n ≤ 100000) : n * componentBytes (newarray.typeOf t) ≤ 536870912 := by
  cases t <;> first | exact absurd rfl h | (simp only [newarray.typeOf, componentBytes]; omega)
theorem hp_newa {K : Ka} {X : Wp} {M : Me} {t : ArrayType} {N : Nat} {H1 : Heap} {cA : ClassId} (hE : Ev K X s) (hH : Hp X M H) (hv : aty t ≠ 0) (e9 : H1[H.size]? = some (arrV cA N (fun _ => defaultValue (newarray.typeOf t)))) (z9 : H1.size = H.size + 1) (o9 : ∀ q, q < H.size → H1[q]? = H[q]?) (hNm : s.vm.findClass ("[" ++ (newarray.typeOf t).toString) = some cA) : Hp X (mNew M 1 N (fun _ => (aty t, N)) (fun _ _ => none)) H1 := by
  refine hp_app hH rfl (fun b hb => new_lo hb) z9 o9 (fun i hi => ?_)
  obtain rfl : i = 0 := by omega
  have hle : 8 + mN M ≤ 8 + (mN M + 0) := by omega
  have hsh : mH (mNew M 1 N (fun _ => (aty t, N)) (fun _ _ => none)) (8 + (mN M + 0)) = (aty t, N) := if_pos hle
  have hin : mI (mNew M 1 N (fun _ => (aty t, N)) (fun _ _ => none)) (8 + (mN M + 0)) = fun _ => 0 := if_pos hle
  have hjn : mJ (mNew M 1 N (fun _ => (aty t, N)) (fun _ _ => none)) (8 + (mN M + 0)) = fun _ => 0 := if_pos hle
  have h0 := (hE.1.2 0 _ rfl).2
  have h1 := (hE.1.2 1 _ rfl).2
  have h2 := (hE.1.2 2 _ rfl).2
  rw [Nat.add_zero] at *
  rw [← hH.1]
  cases t <;> first | exact absurd rfl hv | skip
  · have e : some cA = some X.2.1.2.2.1 := hNm.symm.trans h2
    cases e
    rw [cell_12 (by rw [hsh]; rfl), hsh, hin]
    exact e9
  · have e : some cA = some X.2.1.1 := hNm.symm.trans h0
    cases e
    rw [cell_10 (by rw [hsh]; rfl), hsh, hin]
    exact e9
  · have e : some cA = some X.2.1.2.1 := hNm.symm.trans h1
    cases e
    rw [cell_11 (by rw [hsh]; rfl), hsh, hjn]
    exact e9
theorem outer_v (c : ClassId) (N h0 : Nat) : ∀ i : Nat, Jvm.Free.Multi.outerC c N h0 i = arrV c N (fun j => va_rf (if j < i then some (h0 + 1 + j) else none))
  | 0 => by
    show ({ cls := c, slots := Array.replicate N .null, vm := .none } : Cell) = _
    rw [arrV_new]
    refine congrArg (arrV c N) (funext fun j => ?_)
    simp [va_rf]
  | i + 1 => by
    show (Jvm.Free.Multi.outerC c N h0 i).setSlot i (.ref (h0 + 1 + i)) = _
    rw [outer_v c N h0 i, arrV_store]
    refine congrArg (arrV c N) (funext fun j => ?_)
    by_cases e : j = i
    · subst e
      simp [updV, va_rf]
    · by_cases h : j < i
      · simp [updV, e, h, Nat.lt_succ_of_lt h]
      · simp [updV, e, h, show ¬ j < i + 1 by omega]
theorem str_II : "[" ++ (FieldType.array .int).toString = "[[I" := by decide
theorem mna_ok {K : Ka} {X : Wp} {oc nL : Nat} {pcs : List Nat} {i : Nat} (hx : p.tables.exec = Jvm.exec) (hb : c.code = cc) (hown : s.vm.findClass (cnm oc) = some m.cls) (hts : ∀ w ∈ gw, w.before args s = true) (hw : Cond.classLink (cnm oc) i "[[I" ∈ gw) (hE : Ev K X s)
    {k k1 x1 x2 : Nat} {lv lv1 : Lv} {w n : Int32} {st st1 : List Value} {M M1 : Me} (hd : decode cc (pcs.getD k 0) = .ok (.multianewarray i 2, 4)) (hnx : pcs.getD (k + 1) 0 = pcs.getD k 0 + 4) (h : pst K (.multianewarray x1 x2) k lv (.int w :: .int n :: st) M = some (k1, lv1, st1, M1)) {n0 s0 : Nat} (hcN : mN M1 ≤ n0 + R.cells) (hcS : mS M1 ≤ s0 + R.slots)
    (hlv : lv_has ls nL (lvm X lv)) (hH : Hp X M H) (hS : va_S (Ab X) s.heap H locs) (hc : cells + n0 = mN M) (hs : slots + s0 = mS M)
    (ih : ∀ (H : Heap) (locs : List Loc) (cells slots : Nat) (ls : Array Slot), lv_has ls nL (lvm X lv1) → Hp X M1 H → va_S (Ab X) s.heap H locs → cells + n0 = mN M1 → slots + s0 = mS M1 → W p l e R s m args below meth c H locs cells slots Q (F0 m (pcs.getD k1 0) ls (st1.map (vmp X)))) :
    W p l e R s m args below meth c H locs cells slots Q (F0 m (pcs.getD k 0) ls (.int w :: .int n :: st.map (vmp X))) := by
  change (if ¬ n < 0 ∧ ¬ w < 0 ∧ n.toNatClampNeg ≤ 100000 ∧ w.toNatClampNeg ≤ 100000 then
      some (k + 1, lv, Value.ref (8 + mN M) :: st, mNew M (1 + n.toNatClampNeg) (n.toNatClampNeg + n.toNatClampNeg * w.toNatClampNeg) (fun i => if i = 0 then (13, n.toNatClampNeg) else (10, w.toNatClampNeg)) (fun i j => if i = 0 ∧ j < n.toNatClampNeg then some (8 + mN M + 1 + j) else none)) else none) = some (k1, lv1, st1, M1) at h
  by_cases hv : ¬ n < 0 ∧ ¬ w < 0 ∧ n.toNatClampNeg ≤ 100000 ∧ w.toNatClampNeg ≤ 100000
  · rw [if_pos hv] at h
    cases h
    rw [hnx] at ih
    obtain ⟨hv1, hv2, hv3, hv4⟩ := hv
    have hcN : mN M + (1 + n.toNatClampNeg) ≤ n0 + R.cells := hcN
    have hcS : mS M + (n.toNatClampNeg + n.toNatClampNeg * w.toNatClampNeg) ≤ s0 + R.slots := hcS
    intro T hT Xs
    obtain ⟨vm₁, cA, comp, -, fA, fC, -, -, X', step⟩ := Xs.multianewarray2F hx hown (ty := .int) (by rw [str_II]; exact hts _ hw) (show (Cond.arrayOver (.array .int)).before args s = true from hE.2.2.1) (hts _ lay_a.1) (g := F0 m (pcs.getD k 0) ls (.int w :: .int n :: st.map (vmp X))) rfl (by rw [hb]; exact hd) rfl hv1 hv2 (by omega) (by simp only [componentBytes]; omega) (by omega) rfl rfl (by omega) (by omega)
    generalize hN : n.toNatClampNeg = N at *
    generalize hW : w.toNatClampNeg = L at *
    generalize hF : Jvm.Free.Multi.fill (T.setVm vm₁) cA comp N L (defaultValue .int) N = F at X' step
    have hTh : (T.setVm vm₁).heap = H := hT
    obtain ⟨f1, f2, -, -⟩ := Jvm.Free.Multi.fill_facts (T.setVm vm₁) cA comp N L (defaultValue .int) N
    rw [hF, hTh] at f1 f2
    have hold : ∀ x : Nat, x < H.size → F.heap[x]? = H[x]? := fun x hx => by
      have := Jvm.Free.Multi.fill_old (T.setVm vm₁) cA comp N L (defaultValue .int) (a := x) (by rw [hTh]; exact hx) N
      rw [hF, hTh] at this
      exact this
    have hrow : ∀ j : Nat, j < N → F.heap[H.size + 1 + j]? = some (Jvm.Free.Multi.innerC comp L (defaultValue .int)) := fun j hj => by
      have := Jvm.Free.Multi.fill_inner (T.setVm vm₁) cA comp N L (defaultValue .int) N j hj
      rw [hF, hTh] at this
      exact this
    have eA : some cA = some X.2.1.2.2.2 := fA.symm.trans (hE.1.2 3 _ rfl).2
    have eC : some comp = some X.2.1.1 := fC.symm.trans (hE.1.2 0 _ rfl).2
    cases eA
    cases eC
    have z9 : F.heap.size = H.size + (1 + N) := by rw [f1]; omega
    have hH1 : Hp X (mNew M (1 + N) (N + N * L) (fun i => if i = 0 then (13, N) else (10, L)) (fun i j => if i = 0 ∧ j < N then some (8 + mN M + 1 + j) else none)) F.heap := by
      refine hp_app hH rfl (fun b hb => new_lo hb) z9 hold (fun q hq => ?_)
      have hle : 8 + mN M ≤ 8 + (mN M + q) := by omega
      have hsub : 8 + (mN M + q) - (8 + mN M) = q := by omega
      have hsh : mH (mNew M (1 + N) (N + N * L) (fun i => if i = 0 then (13, N) else (10, L)) (fun i j => if i = 0 ∧ j < N then some (8 + mN M + 1 + j) else none)) (8 + (mN M + q)) = if q = 0 then (13, N) else (10, L) := by
        show (if 8 + mN M ≤ 8 + (mN M + q) then _ else _) = _
        rw [if_pos hle, hsub]
      have hin : mI (mNew M (1 + N) (N + N * L) (fun i => if i = 0 then (13, N) else (10, L)) (fun i j => if i = 0 ∧ j < N then some (8 + mN M + 1 + j) else none)) (8 + (mN M + q)) = fun _ => 0 := if_pos hle
      have hrf : mR (mNew M (1 + N) (N + N * L) (fun i => if i = 0 then (13, N) else (10, L)) (fun i j => if i = 0 ∧ j < N then some (8 + mN M + 1 + j) else none)) (8 + (mN M + q)) = fun j => if q = 0 ∧ j < N then some (8 + mN M + 1 + j) else none := by
        show (if 8 + mN M ≤ 8 + (mN M + q) then _ else _) = _
        rw [if_pos hle, hsub]
      by_cases h0 : q = 0
      · subst h0
        rw [if_pos rfl] at hsh
        rw [cell_13 (by rw [hsh]), hsh, hrf]
        show F.heap[X.2.2.1 + (mN M + 0)]? = some (vp_cell _ _)
        rw [Nat.add_zero, ← hH.1, f2, outer_v, vp_cell_q]
        refine congrArg some (congrArg (arrV _ _) (funext fun j => ?_))
        by_cases hj : j < N
        · simp only [hj, and_self, if_true, Option.map_some]
          rw [adr_c (by omega), hH.1]
          congr 2
          omega
        · simp [hj]
      · rw [if_neg h0] at hsh
        rw [cell_10 (by rw [hsh]), hsh, hin]
        show F.heap[X.2.2.1 + (mN M + q)]? = some (vp_cell _ _)
        have := hrow (q - 1) (by omega)
        rw [show X.2.2.1 + (mN M + q) = H.size + 1 + (q - 1) by rw [hH.1]; omega, this, vp_cell_i]
        show some ({ cls := _, slots := Array.replicate L (Value.int 0), vm := .none } : Cell) = _
        rw [arrV_new]
    have g := ih F.heap locs (cells + 1 + N) (slots + N + N * L) ls hlv hH1 (va_S_new hE.2.2.2.2.2 hS z9 hold) (by show cells + 1 + N + n0 = mN M + (1 + N); omega) (by show slots + N + N * L + s0 = mS M + (N + N * L); omega)
    rw [List.map_cons, show vmp X (Value.ref (8 + mN M)) = Value.ref (adr X (8 + mN M)) from rfl, adr_c (by omega), show 8 + mN M - 8 = mN M by omega, ← hH.1] at g
    obtain ⟨t, a1, b1⟩ := g F rfl X'
    refine ⟨t, step t ?_, b1⟩
    have e : T.heap.size = H.size := by rw [hT]
    rw [e]
    exact a1
  · rw [if_neg hv] at h; cases h
set_option maxHeartbeats 8000000 in
set_option maxRecDepth 100000 in
/-- ONE STEP that is no call and no return -/
theorem step_ok {K : Ka} {X : Wp} {oc nL : Nat} {ini : Bool} {pcs : List Nat} (hx : p.tables.exec = Jvm.exec) (hb : c.code = cc) (hml : c.maxLocals = nL) (hown : s.vm.findClass (cnm oc) = some m.cls) (hts : ∀ w ∈ gw, w.before args s = true) (hin : ini = true → meth.name = "<init>") (hE : Ev K X s) (hRf : 1 ≤ R.frames) (hRl : 22 ≤ R.locals)
    {k ln k1 : Nat} {lv lv1 : Lv} {st st1 : List Value} {M M1 : Me} {pu re : Instr} (hd : decode cc (pcs.getD k 0) = .ok (re, ln)) (hl : lnk oc nL ini pcs k ln pu re = true) (h : pst K pu k lv st M = some (k1, lv1, st1, M1)) {n0 s0 : Nat} (hcN : mN M1 ≤ n0 + R.cells) (hcS : mS M1 ≤ s0 + R.slots)
    (hlv : lv_has ls nL (lvm X lv)) (hH : Hp X M H) (hS : va_S (Ab X) s.heap H locs) (hc : cells + n0 = mN M) (hs : slots + s0 = mS M) (hc' : cells ≤ R.cells) (hs' : slots ≤ R.slots)
    (ih : ∀ (H : Heap) (locs : List Loc) (cells slots : Nat) (ls : Array Slot), lv_has ls nL (lvm X lv1) → Hp X M1 H → va_S (Ab X) s.heap H locs → cells + n0 = mN M1 → slots + s0 = mS M1 → W p l e R s m args below meth c H locs cells slots Q (F0 m (pcs.getD k1 0) ls (st1.map (vmp X)))) :
    W p l e R s m args below meth c H locs cells slots Q (F0 m (pcs.getD k 0) ls (st.map (vmp X))) := by
  unfold lnk at hl
  split at hl
  · -- .iconst v / .iconst n
    simp only [Bool.and_eq_true, decide_eq_true_eq, List.any_eq_true] at hl
    obtain ⟨⟨rfl, hnx⟩, hck⟩ := hl
    cases h
    rw [hnx] at ih
    exact lv_iconst hx hb hd hck (ih H locs cells slots ls hlv hH hS hc hs)
  · -- .iconst v / .bipush n
    simp only [Bool.and_eq_true, decide_eq_true_eq, List.any_eq_true] at hl
    obtain ⟨⟨rfl, hnx⟩, hck⟩ := hl
    cases h
    rw [hnx] at ih
    exact lv_bipush hx hb hd hck (ih H locs cells slots ls hlv hH hS hc hs)
  · -- .iconst v / .sipush n
    simp only [Bool.and_eq_true, decide_eq_true_eq, List.any_eq_true] at hl
    obtain ⟨⟨rfl, hnx⟩, hck⟩ := hl
    cases h
    rw [hnx] at ih
    exact lv_sipush hx hb hd hck (ih H locs cells slots ls hlv hH hS hc hs)
  · -- .iconst v / .ldc i
    simp only [Bool.and_eq_true, decide_eq_true_eq, List.any_eq_true] at hl
    obtain ⟨⟨rfl, hnx⟩, q, hq, hq1, hq2, hq3⟩ := hl
    cases h
    rw [hnx] at ih
    have hw := gwAt_in (List.all_eq_true.mp lkI_ok q hq)
    rw [hq1, hq2, hq3] at hw
    exact lv_ldc hx hb hown (hts _ hw) hd (ih H locs cells slots ls hlv hH hS hc hs)
  · -- .iconst v / .ldc_w i
    simp only [Bool.and_eq_true, decide_eq_true_eq, List.any_eq_true] at hl
    obtain ⟨⟨rfl, hnx⟩, q, hq, hq1, hq2, hq3⟩ := hl
    cases h
    rw [hnx] at ih
    have hw := gwAt_in (List.all_eq_true.mp lkI_ok q hq)
    rw [hq1, hq2, hq3] at hw
    exact lv_ldcw hx hb hown (hts _ hw) hd (ih H locs cells slots ls hlv hH hS hc hs)
  · -- .ldc2_w v / .lconst n
    simp only [Bool.and_eq_true, decide_eq_true_eq, List.any_eq_true] at hl
    obtain ⟨⟨rfl, hnx⟩, hck⟩ := hl
    cases h
    rw [hnx] at ih
    exact lv_lconst hx hb hd hck (ih H locs cells slots ls hlv hH hS hc hs)
  · -- .ldc2_w v / .ldc2_w i
    simp only [Bool.and_eq_true, decide_eq_true_eq, List.any_eq_true] at hl
    obtain ⟨⟨rfl, hnx⟩, q, hq, hq1, hq2, hq3⟩ := hl
    cases h
    rw [hnx] at ih
    have hw := gwAt_in (List.all_eq_true.mp lkL_ok q hq)
    rw [hq1, hq2, hq3] at hw
    exact lv_ldc2 hx hb hown (hts _ hw) hd (ih H locs cells slots ls hlv hH hS hc hs)
  · -- .iload i / .iload_n n
    simp only [Bool.and_eq_true, decide_eq_true_eq, List.any_eq_true] at hl
    obtain ⟨⟨rfl, hnx⟩, hck⟩ := hl
    obtain ⟨x, hg, h⟩ := pst_iload h
    cases h
    rw [hnx] at ih
    have hg := lget_at hg hlv
    exact lv_iload_n hx hb hd hck hg (ih H locs cells slots ls hlv hH hS hc hs)
  · -- .iload i / .iload i2
    simp only [Bool.and_eq_true, decide_eq_true_eq, List.any_eq_true] at hl
    obtain ⟨⟨rfl, hnx⟩, hck⟩ := hl
    obtain ⟨x, hg, h⟩ := pst_iload h
    cases h
    rw [hnx] at ih
    have hg := lget_at hg hlv
    subst hck
    exact lv_iload hx hb hd hg (ih H locs cells slots ls hlv hH hS hc hs)
  · -- .istore i / .istore_n n
    simp only [Bool.and_eq_true, decide_eq_true_eq, List.any_eq_true] at hl
    obtain ⟨⟨rfl, hnx⟩, hck, hnl⟩ := hl
    rcases st with _ | ⟨(x | x | x | x | _ | x | x), st⟩ <;> try (cases h; done)
    cases h
    rw [hnx] at ih
    exact lv_istore_n hx hb hd hck hlv hnl (lset1_m X lv _ (.int x)) (fun ls hlv => (ih H locs cells slots ls hlv hH hS hc hs))
  · -- .istore i / .istore i2
    simp only [Bool.and_eq_true, decide_eq_true_eq, List.any_eq_true] at hl
    obtain ⟨⟨rfl, hnx⟩, hck, hnl⟩ := hl
    rcases st with _ | ⟨(x | x | x | x | _ | x | x), st⟩ <;> try (cases h; done)
    cases h
    rw [hnx] at ih
    subst hck
    exact lv_istore hx hb hd hlv hnl (lset1_m X lv _ (.int x)) (fun ls hlv => (ih H locs cells slots ls hlv hH hS hc hs))
  · -- .lload i / .lload_n n
    simp only [Bool.and_eq_true, decide_eq_true_eq, List.any_eq_true] at hl
    obtain ⟨⟨rfl, hnx⟩, hck⟩ := hl
    obtain ⟨x, hg, h⟩ := pst_lload h
    cases h
    rw [hnx] at ih
    have hg := lget_at hg hlv
    exact lv_lload_n hx hb hd hck hg (ih H locs cells slots ls hlv hH hS hc hs)
  · -- .lload i / .lload i2
    simp only [Bool.and_eq_true, decide_eq_true_eq, List.any_eq_true] at hl
    obtain ⟨⟨rfl, hnx⟩, hck⟩ := hl
    obtain ⟨x, hg, h⟩ := pst_lload h
    cases h
    rw [hnx] at ih
    have hg := lget_at hg hlv
    subst hck
    exact lv_lload hx hb hd hg (ih H locs cells slots ls hlv hH hS hc hs)
  · -- .lstore i / .lstore_n n
    simp only [Bool.and_eq_true, decide_eq_true_eq, List.any_eq_true] at hl
    obtain ⟨⟨rfl, hnx⟩, hck, hnl⟩ := hl
    rcases st with _ | ⟨(x | x | x | x | _ | x | x), st⟩ <;> try (cases h; done)
    cases h
    rw [hnx] at ih
    exact lv_lstore_n hx hb hd hck hlv hnl (lset2_m X lv _ (.long x)) (fun ls hlv => (ih H locs cells slots ls hlv hH hS hc hs))
  · -- .lstore i / .lstore i2
    simp only [Bool.and_eq_true, decide_eq_true_eq, List.any_eq_true] at hl
    obtain ⟨⟨rfl, hnx⟩, hck, hnl⟩ := hl
    rcases st with _ | ⟨(x | x | x | x | _ | x | x), st⟩ <;> try (cases h; done)
    cases h
    rw [hnx] at ih
    subst hck
    exact lv_lstore hx hb hd hlv hnl (lset2_m X lv _ (.long x)) (fun ls hlv => (ih H locs cells slots ls hlv hH hS hc hs))
  · -- .aload i / .aload_n n
    simp only [Bool.and_eq_true, decide_eq_true_eq, List.any_eq_true] at hl
    obtain ⟨⟨rfl, hnx⟩, hck⟩ := hl
    obtain ⟨x, hg, h⟩ := pst_aload h
    cases h
    rw [hnx] at ih
    have hg := lget_at hg hlv
    exact lv_aload_n hx hb hd hck hg (ih H locs cells slots ls hlv hH hS hc hs)
  · -- .aload i / .aload i2
    simp only [Bool.and_eq_true, decide_eq_true_eq, List.any_eq_true] at hl
    obtain ⟨⟨rfl, hnx⟩, hck⟩ := hl
    obtain ⟨x, hg, h⟩ := pst_aload h
    cases h
    rw [hnx] at ih
    have hg := lget_at hg hlv
    subst hck
    exact lv_aload hx hb hd hg (ih H locs cells slots ls hlv hH hS hc hs)
  · -- .astore i / .astore_n n
    simp only [Bool.and_eq_true, decide_eq_true_eq, List.any_eq_true] at hl
    obtain ⟨⟨rfl, hnx⟩, hck, hnl⟩ := hl
    rcases st with _ | ⟨(x | x | x | x | _ | x | x), st⟩ <;> try (cases h; done)
    cases h
    rw [hnx] at ih
    exact lv_astore_n hx hb hd hck hlv hnl (lset1_m X lv _ (.ref x)) (fun ls hlv => (ih H locs cells slots ls hlv hH hS hc hs))
  · -- .astore i / .astore i2
    simp only [Bool.and_eq_true, decide_eq_true_eq, List.any_eq_true] at hl
    obtain ⟨⟨rfl, hnx⟩, hck, hnl⟩ := hl
    rcases st with _ | ⟨(x | x | x | x | _ | x | x), st⟩ <;> try (cases h; done)
    cases h
    rw [hnx] at ih
    subst hck
    exact lv_astore hx hb hd hlv hnl (lset1_m X lv _ (.ref x)) (fun ls hlv => (ih H locs cells slots ls hlv hH hS hc hs))
  · -- .iinc i n / .iinc i2 n2
    simp only [Bool.and_eq_true, decide_eq_true_eq, List.any_eq_true] at hl
    obtain ⟨⟨rfl, hnx⟩, ⟨rfl, rfl⟩, hnl⟩ := hl
    obtain ⟨x, hg, h⟩ := pst_iinc h
    cases h
    rw [hnx] at ih
    obtain ⟨i9, hi9⟩ := List.getElem?_of_mem (lget_in (X := X) hg)
    exact lv_iinc hx hb hd hlv hi9 rfl hnl (lset1_m X lv _ (.int _)) (fun ls hlv => (ih H locs cells slots ls hlv hH hS hc hs))
  · -- .iadd / .iadd
    simp only [Bool.and_eq_true, decide_eq_true_eq, List.any_eq_true] at hl
    obtain ⟨rfl, hnx⟩ := hl
    rcases st with _ | ⟨(y | y | y | y | _ | y | y), _ | ⟨(x | x | x | x | _ | x | x), st⟩⟩ <;> try (cases h; done)
    cases h
    rw [hnx] at ih
    exact lv_iadd hx hb hd (ih H locs cells slots ls hlv hH hS hc hs)
  · -- .isub / .isub
    simp only [Bool.and_eq_true, decide_eq_true_eq, List.any_eq_true] at hl
    obtain ⟨rfl, hnx⟩ := hl
    rcases st with _ | ⟨(y | y | y | y | _ | y | y), _ | ⟨(x | x | x | x | _ | x | x), st⟩⟩ <;> try (cases h; done)
    cases h
    rw [hnx] at ih
    exact lv_isub hx hb hd (ih H locs cells slots ls hlv hH hS hc hs)
  · -- .imul / .imul
    simp only [Bool.and_eq_true, decide_eq_true_eq, List.any_eq_true] at hl
    obtain ⟨rfl, hnx⟩ := hl
    rcases st with _ | ⟨(y | y | y | y | _ | y | y), _ | ⟨(x | x | x | x | _ | x | x), st⟩⟩ <;> try (cases h; done)
    cases h
    rw [hnx] at ih
    exact lv_imul hx hb hd (ih H locs cells slots ls hlv hH hS hc hs)
  · -- .iand / .iand
    simp only [Bool.and_eq_true, decide_eq_true_eq, List.any_eq_true] at hl
    obtain ⟨rfl, hnx⟩ := hl
    rcases st with _ | ⟨(y | y | y | y | _ | y | y), _ | ⟨(x | x | x | x | _ | x | x), st⟩⟩ <;> try (cases h; done)
    cases h
    rw [hnx] at ih
    exact lv_iand hx hb hd (ih H locs cells slots ls hlv hH hS hc hs)
  · -- .ixor / .ixor
    simp only [Bool.and_eq_true, decide_eq_true_eq, List.any_eq_true] at hl
    obtain ⟨rfl, hnx⟩ := hl
    rcases st with _ | ⟨(y | y | y | y | _ | y | y), _ | ⟨(x | x | x | x | _ | x | x), st⟩⟩ <;> try (cases h; done)
    cases h
    rw [hnx] at ih
    exact lv_ixor hx hb hd (ih H locs cells slots ls hlv hH hS hc hs)
  · -- .ishl / .ishl
    simp only [Bool.and_eq_true, decide_eq_true_eq, List.any_eq_true] at hl
    obtain ⟨rfl, hnx⟩ := hl
    rcases st with _ | ⟨(y | y | y | y | _ | y | y), _ | ⟨(x | x | x | x | _ | x | x), st⟩⟩ <;> try (cases h; done)
    cases h
    rw [hnx] at ih
    exact lv_ishl hx hb hd (ih H locs cells slots ls hlv hH hS hc hs)
  · -- .ishr / .ishr
    simp only [Bool.and_eq_true, decide_eq_true_eq, List.any_eq_true] at hl
    obtain ⟨rfl, hnx⟩ := hl
    rcases st with _ | ⟨(y | y | y | y | _ | y | y), _ | ⟨(x | x | x | x | _ | x | x), st⟩⟩ <;> try (cases h; done)
    cases h
    rw [hnx] at ih
    exact lv_ishr hx hb hd (ih H locs cells slots ls hlv hH hS hc hs)
  · -- .iushr / .iushr
    simp only [Bool.and_eq_true, decide_eq_true_eq, List.any_eq_true] at hl
    obtain ⟨rfl, hnx⟩ := hl
    rcases st with _ | ⟨(y | y | y | y | _ | y | y), _ | ⟨(x | x | x | x | _ | x | x), st⟩⟩ <;> try (cases h; done)
    cases h
    rw [hnx] at ih
    exact lv_iushr hx hb hd rfl (ih H locs cells slots ls hlv hH hS hc hs)
  · -- .idiv / .idiv
    simp only [Bool.and_eq_true, decide_eq_true_eq, List.any_eq_true] at hl
    obtain ⟨rfl, hnx⟩ := hl
    rcases st with _ | ⟨(y | y | y | y | _ | y | y), _ | ⟨(x | x | x | x | _ | x | x), st⟩⟩ <;> try (cases h; done)
    change (if y = 0 then none else some (k + 1, lv, Value.int (x / y) :: st, M)) = some (k1, lv1, st1, M1) at h
    by_cases hy : y = 0
    · rw [if_pos hy] at h; cases h
    · rw [if_neg hy] at h
      cases h
      rw [hnx] at ih
      exact lv_idiv hx hb hd hy (ih H locs cells slots ls hlv hH hS hc hs)
  · -- .irem / .irem
    simp only [Bool.and_eq_true, decide_eq_true_eq, List.any_eq_true] at hl
    obtain ⟨rfl, hnx⟩ := hl
    rcases st with _ | ⟨(y | y | y | y | _ | y | y), _ | ⟨(x | x | x | x | _ | x | x), st⟩⟩ <;> try (cases h; done)
    change (if y = 0 then none else some (k + 1, lv, Value.int (x - x / y * y) :: st, M)) = some (k1, lv1, st1, M1) at h
    by_cases hy : y = 0
    · rw [if_pos hy] at h; cases h
    · rw [if_neg hy] at h
      cases h
      rw [hnx] at ih
      exact lv_irem hx hb hd hy (ih H locs cells slots ls hlv hH hS hc hs)
  · -- .ldiv / .ldiv
    simp only [Bool.and_eq_true, decide_eq_true_eq, List.any_eq_true] at hl
    obtain ⟨rfl, hnx⟩ := hl
    rcases st with _ | ⟨(y | y | y | y | _ | y | y), _ | ⟨(x | x | x | x | _ | x | x), st⟩⟩ <;> try (cases h; done)
    change (if y = 0 then none else some (k + 1, lv, Value.long (x / y) :: st, M)) = some (k1, lv1, st1, M1) at h
    by_cases hy : y = 0
    · rw [if_pos hy] at h; cases h
    · rw [if_neg hy] at h
      cases h
      rw [hnx] at ih
      exact lv_ldiv hx hb hd hy (ih H locs cells slots ls hlv hH hS hc hs)
  · -- .lrem / .lrem
    simp only [Bool.and_eq_true, decide_eq_true_eq, List.any_eq_true] at hl
    obtain ⟨rfl, hnx⟩ := hl
    rcases st with _ | ⟨(y | y | y | y | _ | y | y), _ | ⟨(x | x | x | x | _ | x | x), st⟩⟩ <;> try (cases h; done)
    change (if y = 0 then none else some (k + 1, lv, Value.long (x - x / y * y) :: st, M)) = some (k1, lv1, st1, M1) at h
    by_cases hy : y = 0
    · rw [if_pos hy] at h; cases h
    · rw [if_neg hy] at h
      cases h
      rw [hnx] at ih
      exact lv_lrem hx hb hd hy (ih H locs cells slots ls hlv hH hS hc hs)
  · -- .ineg / .ineg
    simp only [Bool.and_eq_true, decide_eq_true_eq, List.any_eq_true] at hl
    obtain ⟨rfl, hnx⟩ := hl
    rcases st with _ | ⟨(x | x | x | x | _ | x | x), st⟩ <;> try (cases h; done)
    cases h
    rw [hnx] at ih
    exact lv_ineg hx hb hd (ih H locs cells slots ls hlv hH hS hc hs)
  · -- .ladd / .ladd
    simp only [Bool.and_eq_true, decide_eq_true_eq, List.any_eq_true] at hl
    obtain ⟨rfl, hnx⟩ := hl
    rcases st with _ | ⟨(y | y | y | y | _ | y | y), _ | ⟨(x | x | x | x | _ | x | x), st⟩⟩ <;> try (cases h; done)
    cases h
    rw [hnx] at ih
    exact lv_ladd hx hb hd (ih H locs cells slots ls hlv hH hS hc hs)
  · -- .lsub / .lsub
    simp only [Bool.and_eq_true, decide_eq_true_eq, List.any_eq_true] at hl
    obtain ⟨rfl, hnx⟩ := hl
    rcases st with _ | ⟨(y | y | y | y | _ | y | y), _ | ⟨(x | x | x | x | _ | x | x), st⟩⟩ <;> try (cases h; done)
    cases h
    rw [hnx] at ih
    exact lv_lsub hx hb hd (ih H locs cells slots ls hlv hH hS hc hs)
  · -- .lmul / .lmul
    simp only [Bool.and_eq_true, decide_eq_true_eq, List.any_eq_true] at hl
    obtain ⟨rfl, hnx⟩ := hl
    rcases st with _ | ⟨(y | y | y | y | _ | y | y), _ | ⟨(x | x | x | x | _ | x | x), st⟩⟩ <;> try (cases h; done)
    cases h
    rw [hnx] at ih
    exact lv_lmul hx hb hd (ih H locs cells slots ls hlv hH hS hc hs)
  · -- .i2l / .i2l
    simp only [Bool.and_eq_true, decide_eq_true_eq, List.any_eq_true] at hl
    obtain ⟨rfl, hnx⟩ := hl
    rcases st with _ | ⟨(x | x | x | x | _ | x | x), st⟩ <;> try (cases h; done)
    cases h
    rw [hnx] at ih
    exact lv_i2l hx hb hd rfl (ih H locs cells slots ls hlv hH hS hc hs)
  · -- .l2i / .l2i
    simp only [Bool.and_eq_true, decide_eq_true_eq, List.any_eq_true] at hl
    obtain ⟨rfl, hnx⟩ := hl
    rcases st with _ | ⟨(x | x | x | x | _ | x | x), st⟩ <;> try (cases h; done)
    cases h
    rw [hnx] at ih
    exact lv_l2i hx hb hd rfl (ih H locs cells slots ls hlv hH hS hc hs)
  · -- .lcmp / .lcmp
    simp only [Bool.and_eq_true, decide_eq_true_eq, List.any_eq_true] at hl
    obtain ⟨rfl, hnx⟩ := hl
    rcases st with _ | ⟨(y | y | y | y | _ | y | y), _ | ⟨(x | x | x | x | _ | x | x), st⟩⟩ <;> try (cases h; done)
    cases h
    rw [hnx] at ih
    exact W.lcmp hx hb hd (ih H locs cells slots ls hlv hH hS hc hs)
  · -- .dup / .dup
    simp only [Bool.and_eq_true, decide_eq_true_eq, List.any_eq_true] at hl
    obtain ⟨rfl, hnx⟩ := hl
    rcases st with _ | ⟨v, st⟩
    · cases h
    · change (if v.category = 1 then some (k + 1, lv, v :: v :: st, M) else none) = some (k1, lv1, st1, M1) at h
      by_cases hv : v.category = 1
      · rw [if_pos hv] at h
        cases h
        rw [hnx] at ih
        exact lv_dup hx hb hd (by rw [vmp_cat]; exact hv) (ih H locs cells slots ls hlv hH hS hc hs)
      · rw [if_neg hv] at h; cases h
  · -- .dup2 / .dup2
    simp only [Bool.and_eq_true, decide_eq_true_eq, List.any_eq_true] at hl
    obtain ⟨rfl, hnx⟩ := hl
    rcases st with _ | ⟨v, _ | ⟨w, st⟩⟩
    · cases h
    · cases h
    · change (if v.category = 1 ∧ w.category = 1 then some (k + 1, lv, v :: w :: v :: w :: st, M) else none) = some (k1, lv1, st1, M1) at h
      by_cases hv : v.category = 1 ∧ w.category = 1
      · rw [if_pos hv] at h
        cases h
        rw [hnx] at ih
        exact lv_dup2_11 hx hb hd (by rw [vmp_cat]; exact hv.1) (by rw [vmp_cat]; exact hv.2) (ih H locs cells slots ls hlv hH hS hc hs)
      · rw [if_neg hv] at h; cases h
  · -- .pop / .invokespecial i
    simp only [Bool.and_eq_true, decide_eq_true_eq, List.any_eq_true] at hl
    obtain ⟨⟨rfl, hnx⟩, q, hq, hq1, hq2⟩ := hl
    rcases st with _ | ⟨(x | x | x | x | _ | x | x), st⟩ <;> try (cases h; done)
    change (if (st.map fun v => v.category).sum ≤ 8 then some (k + 1, lv, st, M) else none) = some (k1, lv1, st1, M1) at h
    by_cases hv : (st.map fun v => v.category).sum ≤ 8
    · rw [if_pos hv] at h
      have hcat : ((st.map (vmp X)).map fun v => v.category).sum ≤ 8 := by rw [cats_m]; exact hv
      cases h
      rw [hnx] at ih
      have hw := gwAt_in (List.all_eq_true.mp lkO_ok q hq)
      rw [hq1, hq2] at hw
      refine W.objInit hx hb hown (hts _ hw) (hts _ lay_o.1) (hts _ lay_o.2) rfl (by rw [hml]; exact hlv.1) rfl hd hRf ?_ (ih H locs cells slots ls hlv hH hS hc hs)
      show 2 * 0 + _ + 12 ≤ _
      omega
    · rw [if_neg hv] at h; cases h
  · -- .goto t / .goto o
    simp only [Bool.and_eq_true, decide_eq_true_eq, List.any_eq_true] at hl
    obtain ⟨rfl, hck⟩ := hl
    cases h
    exact lv_goto hx hb hd hck (ih H locs cells slots ls hlv hH hS hc hs)
  · -- .ifCond .eq t / .ifCond .eq o
    simp only [Bool.and_eq_true, decide_eq_true_eq, List.any_eq_true] at hl
    obtain ⟨⟨rfl, hnx⟩, hck⟩ := hl
    rcases st with _ | ⟨(x | x | x | x | _ | x | x), st⟩ <;> try (cases h; done)
    cases h
    refine lv_if_eq hx hb hd hck (fun c9 => ?_) (fun c9 => ?_)
    · have := (ih H locs cells slots ls hlv hH hS hc hs)
      rw [if_pos (show cmpI .eq x 0 = true from decide_eq_true c9)] at this
      exact this
    · have := (ih H locs cells slots ls hlv hH hS hc hs)
      rw [if_neg (fun q : cmpI .eq x 0 = true => c9 (of_decide_eq_true q)), hnx] at this
      exact this
  · -- .ifCond .ne t / .ifCond .ne o
    simp only [Bool.and_eq_true, decide_eq_true_eq, List.any_eq_true] at hl
    obtain ⟨⟨rfl, hnx⟩, hck⟩ := hl
    rcases st with _ | ⟨(x | x | x | x | _ | x | x), st⟩ <;> try (cases h; done)
    cases h
    refine lv_if_ne hx hb hd hck (fun c9 => ?_) (fun c9 => ?_)
    · have := (ih H locs cells slots ls hlv hH hS hc hs)
      rw [if_pos (show cmpI .ne x 0 = true from decide_eq_true c9)] at this
      exact this
    · have := (ih H locs cells slots ls hlv hH hS hc hs)
      rw [if_neg (fun q : cmpI .ne x 0 = true => (of_decide_eq_true q) c9), hnx] at this
      exact this
  · -- .ifCond .lt t / .ifCond .lt o
    simp only [Bool.and_eq_true, decide_eq_true_eq, List.any_eq_true] at hl
    obtain ⟨⟨rfl, hnx⟩, hck⟩ := hl
    rcases st with _ | ⟨(x | x | x | x | _ | x | x), st⟩ <;> try (cases h; done)
    cases h
    refine lv_if_lt hx hb hd hck (fun c9 => ?_) (fun c9 => ?_)
    · have := (ih H locs cells slots ls hlv hH hS hc hs)
      rw [if_pos (show cmpI .lt x 0 = true from decide_eq_true c9)] at this
      exact this
    · have := (ih H locs cells slots ls hlv hH hS hc hs)
      rw [if_neg (fun q : cmpI .lt x 0 = true => c9 (of_decide_eq_true q)), hnx] at this
      exact this
  · -- .ifCond .ge t / .ifCond .ge o
    simp only [Bool.and_eq_true, decide_eq_true_eq, List.any_eq_true] at hl
    obtain ⟨⟨rfl, hnx⟩, hck⟩ := hl
    rcases st with _ | ⟨(x | x | x | x | _ | x | x), st⟩ <;> try (cases h; done)
    cases h
    refine lv_if_ge hx hb hd hck (fun c9 => ?_) (fun c9 => ?_)
    · have := (ih H locs cells slots ls hlv hH hS hc hs)
      rw [if_pos (show cmpI .ge x 0 = true from decide_eq_true c9)] at this
      exact this
    · have := (ih H locs cells slots ls hlv hH hS hc hs)
      rw [if_neg (fun q : cmpI .ge x 0 = true => c9 (of_decide_eq_true q)), hnx] at this
      exact this
  · -- .ifCond .gt t / .ifCond .gt o
    simp only [Bool.and_eq_true, decide_eq_true_eq, List.any_eq_true] at hl
    obtain ⟨⟨rfl, hnx⟩, hck⟩ := hl
    rcases st with _ | ⟨(x | x | x | x | _ | x | x), st⟩ <;> try (cases h; done)
    cases h
    refine lv_if_gt hx hb hd hck (fun c9 => ?_) (fun c9 => ?_)
    · have := (ih H locs cells slots ls hlv hH hS hc hs)
      rw [if_pos (show cmpI .gt x 0 = true from decide_eq_true c9)] at this
      exact this
    · have := (ih H locs cells slots ls hlv hH hS hc hs)
      rw [if_neg (fun q : cmpI .gt x 0 = true => c9 (of_decide_eq_true q)), hnx] at this
      exact this
  · -- .ifCond .le t / .ifCond .le o
    simp only [Bool.and_eq_true, decide_eq_true_eq, List.any_eq_true] at hl
    obtain ⟨⟨rfl, hnx⟩, hck⟩ := hl
    rcases st with _ | ⟨(x | x | x | x | _ | x | x), st⟩ <;> try (cases h; done)
    cases h
    refine lv_if_le hx hb hd hck (fun c9 => ?_) (fun c9 => ?_)
    · have := (ih H locs cells slots ls hlv hH hS hc hs)
      rw [if_pos (show cmpI .le x 0 = true from decide_eq_true c9)] at this
      exact this
    · have := (ih H locs cells slots ls hlv hH hS hc hs)
      rw [if_neg (fun q : cmpI .le x 0 = true => c9 (of_decide_eq_true q)), hnx] at this
      exact this
  · -- .if_icmp .eq t / .if_icmp .eq o
    simp only [Bool.and_eq_true, decide_eq_true_eq, List.any_eq_true] at hl
    obtain ⟨⟨rfl, hnx⟩, hck⟩ := hl
    rcases st with _ | ⟨(y | y | y | y | _ | y | y), _ | ⟨(x | x | x | x | _ | x | x), st⟩⟩ <;> try (cases h; done)
    cases h
    refine lv_icmp_eq hx hb hd hck (fun c9 => ?_) (fun c9 => ?_)
    · have := (ih H locs cells slots ls hlv hH hS hc hs)
      rw [if_pos (show cmpI .eq x y = true from decide_eq_true c9)] at this
      exact this
    · have := (ih H locs cells slots ls hlv hH hS hc hs)
      rw [if_neg (fun q : cmpI .eq x y = true => c9 (of_decide_eq_true q)), hnx] at this
      exact this
  · -- .if_icmp .ne t / .if_icmp .ne o
    simp only [Bool.and_eq_true, decide_eq_true_eq, List.any_eq_true] at hl
    obtain ⟨⟨rfl, hnx⟩, hck⟩ := hl
    rcases st with _ | ⟨(y | y | y | y | _ | y | y), _ | ⟨(x | x | x | x | _ | x | x), st⟩⟩ <;> try (cases h; done)
    cases h
    refine lv_icmp_ne hx hb hd hck (fun c9 => ?_) (fun c9 => ?_)
    · have := (ih H locs cells slots ls hlv hH hS hc hs)
      rw [if_pos (show cmpI .ne x y = true from decide_eq_true c9)] at this
      exact this
    · have := (ih H locs cells slots ls hlv hH hS hc hs)
      rw [if_neg (fun q : cmpI .ne x y = true => (of_decide_eq_true q) c9), hnx] at this
      exact this
  · -- .if_icmp .lt t / .if_icmp .lt o
    simp only [Bool.and_eq_true, decide_eq_true_eq, List.any_eq_true] at hl
    obtain ⟨⟨rfl, hnx⟩, hck⟩ := hl
    rcases st with _ | ⟨(y | y | y | y | _ | y | y), _ | ⟨(x | x | x | x | _ | x | x), st⟩⟩ <;> try (cases h; done)
    cases h
    refine lv_icmp_lt hx hb hd hck (fun c9 => ?_) (fun c9 => ?_)
    · have := (ih H locs cells slots ls hlv hH hS hc hs)
      rw [if_pos (show cmpI .lt x y = true from decide_eq_true c9)] at this
      exact this
    · have := (ih H locs cells slots ls hlv hH hS hc hs)
      rw [if_neg (fun q : cmpI .lt x y = true => c9 (of_decide_eq_true q)), hnx] at this
      exact this
  · -- .if_icmp .ge t / .if_icmp .ge o
    simp only [Bool.and_eq_true, decide_eq_true_eq, List.any_eq_true] at hl
    obtain ⟨⟨rfl, hnx⟩, hck⟩ := hl
    rcases st with _ | ⟨(y | y | y | y | _ | y | y), _ | ⟨(x | x | x | x | _ | x | x), st⟩⟩ <;> try (cases h; done)
    cases h
    refine lv_icmp_ge hx hb hd hck (fun c9 => ?_) (fun c9 => ?_)
    · have := (ih H locs cells slots ls hlv hH hS hc hs)
      rw [if_pos (show cmpI .ge x y = true from decide_eq_true c9)] at this
      exact this
    · have := (ih H locs cells slots ls hlv hH hS hc hs)
      rw [if_neg (fun q : cmpI .ge x y = true => c9 (of_decide_eq_true q)), hnx] at this
      exact this
  · -- .if_icmp .gt t / .if_icmp .gt o
    simp only [Bool.and_eq_true, decide_eq_true_eq, List.any_eq_true] at hl
    obtain ⟨⟨rfl, hnx⟩, hck⟩ := hl
    rcases st with _ | ⟨(y | y | y | y | _ | y | y), _ | ⟨(x | x | x | x | _ | x | x), st⟩⟩ <;> try (cases h; done)
    cases h
    refine lv_icmp_gt hx hb hd hck (fun c9 => ?_) (fun c9 => ?_)
    · have := (ih H locs cells slots ls hlv hH hS hc hs)
      rw [if_pos (show cmpI .gt x y = true from decide_eq_true c9)] at this
      exact this
    · have := (ih H locs cells slots ls hlv hH hS hc hs)
      rw [if_neg (fun q : cmpI .gt x y = true => c9 (of_decide_eq_true q)), hnx] at this
      exact this
  · -- .if_icmp .le t / .if_icmp .le o
    simp only [Bool.and_eq_true, decide_eq_true_eq, List.any_eq_true] at hl
    obtain ⟨⟨rfl, hnx⟩, hck⟩ := hl
    rcases st with _ | ⟨(y | y | y | y | _ | y | y), _ | ⟨(x | x | x | x | _ | x | x), st⟩⟩ <;> try (cases h; done)
    cases h
    refine lv_icmp_le hx hb hd hck (fun c9 => ?_) (fun c9 => ?_)
    · have := (ih H locs cells slots ls hlv hH hS hc hs)
      rw [if_pos (show cmpI .le x y = true from decide_eq_true c9)] at this
      exact this
    · have := (ih H locs cells slots ls hlv hH hS hc hs)
      rw [if_neg (fun q : cmpI .le x y = true => c9 (of_decide_eq_true q)), hnx] at this
      exact this
  · -- tableswitch
    rename_i d lo hi ts d2 lo2 hi2 ts2
    simp only [Bool.and_eq_true, decide_eq_true_eq, List.any_eq_true] at hl
    obtain ⟨⟨hlo, hhi, hck⟩, hts2⟩ := hl
    rw [hlo, hhi] at hd
    rcases st with _ | ⟨(x | x | x | x | _ | x | x), st⟩ <;> try (cases h; done)
    change (if x.toInt < lo ∨ hi < x.toInt then some (d.toNat, lv, st, M) else match ts[(x.toInt - lo).toNat]? with
      | some t => some (t.toNat, lv, st, M)
      | none => none) = some (k1, lv1, st1, M1) at h
    by_cases hv : x.toInt < lo ∨ hi < x.toInt
    · rw [if_pos hv] at h
      cases h
      exact lv_tableOut hx hb hd hv hck (ih H locs cells slots ls hlv hH hS hc hs)
    · rw [if_neg hv] at h
      have hv1 : ¬ x.toInt < lo := fun q => hv (Or.inl q)
      have hv2 : ¬ hi < x.toInt := fun q => hv (Or.inr q)
      cases ht : ts[(x.toInt - lo).toNat]? with
      | none => rw [ht] at h; cases h
      | some t =>
        rw [ht] at h
        cases h
        have e := congrArg (fun l : List Int => l[(x.toInt - lo).toNat]?) hts2
        simp only [List.getElem?_map, Array.getElem?_toList, ht, Option.map_some] at e
        cases ht2 : ts2[(x.toInt - lo).toNat]? with
        | none => rw [ht2] at e; cases e
        | some t2 =>
          rw [ht2] at e
          exact lv_tableIn hx hb hd hv1 hv2 ht2 (Option.some.inj e) (ih H locs cells slots ls hlv hH hS hc hs)
  · -- .getfield n
    rename_i n i
    simp only [Bool.and_eq_true, decide_eq_true_eq, List.any_eq_true] at hl
    obtain ⟨⟨rfl, hnx⟩, q, hq, hq1, hq2, hq3⟩ := hl
    have hw := List.all_eq_true.mp lkF_ok q hq
    simp only [Bool.and_eq_true, decide_eq_true_eq] at hw
    obtain ⟨hw, hq4, hq5⟩ := hw
    have hw := gwAt_in hw
    have hq6 : n / 100 = q.2.2.1 := by have := nf_lt q.2.2.1; omega
    have hq7 : n % 100 = q.2.2.2.1 := by have := nf_lt q.2.2.1; omega
    rw [hq1, hq2, ← hq6, ← hq7] at hw
    rcases st with _ | ⟨(a | a | a | a | _ | a | a), st⟩ <;> try (cases h; done)
    change (if isC M a (n / 100) = true ∧ n / 100 < 6 ∧ n % 100 < nf (n / 100) then some (k + 1, lv, fval M a (n / 100) (n % 100) :: st, M) else none) = some (k1, lv1, st1, M1) at h
    by_cases hv : isC M a (n / 100) = true ∧ n / 100 < 6 ∧ n % 100 < nf (n / 100)
    · rw [if_pos hv] at h
      cases h
      rw [hnx] at ih
      obtain ⟨ha, hb6, hf⟩ := hv
      have hce := cell_o (X := X) (isC_iff ha).2.2 hb6
      exact va_get hx hb hts (lay_f hb6) hown hE.1 hH.2 (a - 8) (by rw [ws_at ha, hce]) (kl_at hb6) (n % 100) hf (hts _ hw) (fun x h => h) (by rw [List.getElem?_map, List.getElem?_range hf]; rfl) hd (ih H locs cells slots ls hlv hH hS hc hs)
    · rw [if_neg hv] at h; cases h
  · -- .putfield n
    rename_i n i
    simp only [Bool.and_eq_true, decide_eq_true_eq, List.any_eq_true] at hl
    obtain ⟨⟨rfl, hnx⟩, ⟨q, hq, hq1, hq2, hq3⟩, hfn⟩ := hl
    have hw := List.all_eq_true.mp lkF_ok q hq
    simp only [Bool.and_eq_true, decide_eq_true_eq] at hw
    obtain ⟨hw, hq4, hq5⟩ := hw
    have hw := gwAt_in hw
    have hq6 : n / 100 = q.2.2.1 := by have := nf_lt q.2.2.1; omega
    have hq7 : n % 100 = q.2.2.2.1 := by have := nf_lt q.2.2.1; omega
    rw [hq1, hq2, ← hq6, ← hq7] at hw
    rcases st with _ | ⟨v, _ | ⟨(a | a | a | a | _ | a | a), st⟩⟩ <;> try (cases h; done)
    change (if isC M a (n / 100) = true ∧ n / 100 < 6 ∧ n % 100 < nf (n / 100) then
      (match v with
      | .int x => if fso (n / 100) (n % 100) = 0 ∨ (fso (n / 100) (n % 100) = 1 ∧ (x = 0 ∨ x = 1)) then some (k + 1, lv, st, wI M (u2 (mI M) a (n % 100) x)) else none
      | .ref b => if fso (n / 100) (n % 100) = 2 then some (k + 1, lv, st, wR M (u2 (mR M) a (n % 100) (some b))) else none
      | _ => none)
      else none) = some (k1, lv1, st1, M1) at h
    by_cases hv : isC M a (n / 100) = true ∧ n / 100 < 6 ∧ n % 100 < nf (n / 100)
    · rw [if_pos hv] at h
      obtain ⟨ha, hb6, hf⟩ := hv
      have hfin : (TXf (n / 100) (n % 100)).2.2.2 = false ∨ (meth.name = "<init>" ∧ (TXf (n / 100) (n % 100)).1 = cnm oc) := by
        simp only [Bool.or_eq_true, Bool.not_eq_true', Bool.and_eq_true, decide_eq_true_eq] at hfn
        rcases hfn with q | ⟨q1, q2⟩
        · exact Or.inl q
        · exact Or.inr ⟨hin q1, by rw [← q2]; exact tx_own hb6 hf⟩
      cases v with
      | int x =>
        change (if fso (n / 100) (n % 100) = 0 ∨ (fso (n / 100) (n % 100) = 1 ∧ (x = 0 ∨ x = 1)) then some (k + 1, lv, st, wI M (u2 (mI M) a (n % 100) x)) else none) = some (k1, lv1, st1, M1) at h
        by_cases hz : fso (n / 100) (n % 100) = 0 ∨ (fso (n / 100) (n % 100) = 1 ∧ (x = 0 ∨ x = 1))
        · rw [if_pos hz] at h
          cases h
          rw [hnx] at ih
          obtain ⟨g1, g2⟩ := fits_int hz
          exact put_ok (M1 := wI M (u2 (mI M) a (n % 100) x)) hx hb hown hts hE hH hS ha hb6 hf (hts _ hw) hfin g1 g2 rfl (fun b hb9 => cell_same rfl (u2_ne hb9) rfl rfl) (cell_putI ha hb6 hf hz) hd (fun H1 locs1 hH1 hS1 => ih H1 locs1 cells slots ls hlv hH1 hS1 hc hs)
        · rw [if_neg hz] at h; cases h
      | ref b =>
        change (if fso (n / 100) (n % 100) = 2 then some (k + 1, lv, st, wR M (u2 (mR M) a (n % 100) (some b))) else none) = some (k1, lv1, st1, M1) at h
        by_cases hz : fso (n / 100) (n % 100) = 2
        · rw [if_pos hz] at h
          cases h
          rw [hnx] at ih
          obtain ⟨g1, g2⟩ := fits_ref (adr X b) hb6 hf hz
          exact put_ok (M1 := wR M (u2 (mR M) a (n % 100) (some b))) hx hb hown hts hE hH hS ha hb6 hf (hts _ hw) hfin g1 g2 rfl (fun b hb9 => cell_same rfl rfl rfl (u2_ne hb9)) (cell_putR ha hb6 hf hz) hd (fun H1 locs1 hH1 hS1 => ih H1 locs1 cells slots ls hlv hH1 hS1 hc hs)
        · rw [if_neg hz] at h; cases h
      | _ => cases h
    · rw [if_neg hv] at h; cases h
  · -- getstatic
    rename_i j i
    simp only [Bool.and_eq_true, decide_eq_true_eq, List.any_eq_true] at hl
    obtain ⟨⟨rfl, hnx⟩, q, hq, hq1, hq2, hq3⟩ := hl
    cases h
    rw [hnx] at ih
    have hw := List.all_eq_true.mp lkS_ok q hq
    simp only [Bool.and_eq_true, decide_eq_true_eq] at hw
    obtain ⟨hw, hj⟩ := hw
    have hw := gwAt_in hw
    rw [hq1, hq2, hq3] at hw
    rw [hq3] at hj
    have g := (ih H locs cells slots ls hlv hH hS hc hs)
    have ej : adr X j = X.2.2.2 j := adr_k (by omega)
    rw [List.map_cons, show vmp X (Value.ref j) = Value.ref (adr X j) from rfl, ej] at g
    exact va_gets hx hb (hE.2.2.2.2.1 _ hj) hS hown (hts _ hw) (fun x h => h) hd g
  · -- .arraylength / .arraylength
    simp only [Bool.and_eq_true, decide_eq_true_eq, List.any_eq_true] at hl
    obtain ⟨rfl, hnx⟩ := hl
    rcases st with _ | ⟨(a | a | a | a | _ | a | a), st⟩ <;> try (cases h; done)
    change (if a < 5 then some (k + 1, lv, Value.int (Int32.ofNat (K a).1) :: st, M) else none) = some (k1, lv1, st1, M1) at h
    by_cases hv : a < 5
    · rw [if_pos hv] at h
      cases h
      rw [hnx] at ih
      show W p l e R s m args below meth c H locs cells slots Q (F0 m (pcs.getD k 0) ls (Value.ref (adr X a) :: st.map (vmp X)))
      rw [adr_k (X := X) (a := a) (Nat.lt_of_lt_of_le (show a < 5 from hv) (by decide))]
      exact va_tlen hx hb (hE.2.2.2.1 a hv) hS rfl hd (ih H locs cells slots ls hlv hH hS hc hs)
    · rw [if_neg hv] at h; cases h
  · -- .iaload / .iaload
    simp only [Bool.and_eq_true, decide_eq_true_eq, List.any_eq_true] at hl
    obtain ⟨rfl, hnx⟩ := hl
    rcases st with _ | ⟨(j | j | j | j | _ | j | j), _ | ⟨(a | a | a | a | _ | a | a), st⟩⟩ <;> try (cases h; done)
    change (if a < 5 then (if inb j (K a).1 = true then some (k + 1, lv, Value.int ((K a).2 j.toNatClampNeg) :: st, M) else none)
      else if isC M a 10 = true ∧ inb j (mH M a).2 = true then some (k + 1, lv, Value.int (mI M a j.toNatClampNeg) :: st, M) else none) = some (k1, lv1, st1, M1) at h
    by_cases h5 : a < 5
    · rw [if_pos h5] at h
      by_cases hv : inb j (K a).1 = true
      · rw [if_pos hv] at h
        cases h
        rw [hnx] at ih
        show W p l e R s m args below meth c H locs cells slots Q (F0 m (pcs.getD k 0) ls (Value.int j :: Value.ref (adr X a) :: st.map (vmp X)))
        rw [adr_k (X := X) (a := a) (Nat.lt_of_lt_of_le (show a < 5 from h5) (by decide))]
        exact va_ti hx hb (hE.2.2.2.1 a h5) hS (inb_iff hv) rfl hd (ih H locs cells slots ls hlv hH hS hc hs)
      · rw [if_neg hv] at h; cases h
    · rw [if_neg h5] at h
      by_cases hv : isC M a 10 = true ∧ inb j (mH M a).2 = true
      · rw [if_pos hv] at h
        cases h
        rw [hnx] at ih
        have hce := cell_10 (X := X) (isC_iff hv.1).2.2
        exact va_iald hx hb hE.1 hH.2 (a - 8) 0 (by rw [ws_at hv.1, hce]) rfl (inb_iff hv.2) hd (ih H locs cells slots ls hlv hH hS hc hs)
      · rw [if_neg hv] at h; cases h
  · -- .baload / .baload
    simp only [Bool.and_eq_true, decide_eq_true_eq, List.any_eq_true] at hl
    obtain ⟨rfl, hnx⟩ := hl
    rcases st with _ | ⟨(j | j | j | j | _ | j | j), _ | ⟨(a | a | a | a | _ | a | a), st⟩⟩ <;> try (cases h; done)
    change (if isC M a 12 = true ∧ inb j (mH M a).2 = true then some (k + 1, lv, Value.int (mI M a j.toNatClampNeg) :: st, M) else none) = some (k1, lv1, st1, M1) at h
    by_cases hv : isC M a 12 = true ∧ inb j (mH M a).2 = true
    · rw [if_pos hv] at h
      cases h
      rw [hnx] at ih
      have hce := cell_12 (X := X) (isC_iff hv.1).2.2
      exact va_zald hx hb hE.1 hH.2 (a - 8) 2 (by rw [ws_at hv.1, hce]) rfl (inb_iff hv.2) hd (ih H locs cells slots ls hlv hH hS hc hs)
    · rw [if_neg hv] at h; cases h
  · -- .laload / .laload
    simp only [Bool.and_eq_true, decide_eq_true_eq, List.any_eq_true] at hl
    obtain ⟨rfl, hnx⟩ := hl
    rcases st with _ | ⟨(j | j | j | j | _ | j | j), _ | ⟨(a | a | a | a | _ | a | a), st⟩⟩ <;> try (cases h; done)
    change (if isC M a 11 = true ∧ inb j (mH M a).2 = true then some (k + 1, lv, Value.long (mJ M a j.toNatClampNeg) :: st, M) else none) = some (k1, lv1, st1, M1) at h
    by_cases hv : isC M a 11 = true ∧ inb j (mH M a).2 = true
    · rw [if_pos hv] at h
      cases h
      rw [hnx] at ih
      have hce := cell_11 (X := X) (isC_iff hv.1).2.2
      exact va_lald hx hb hE.1 hH.2 (a - 8) 1 (by rw [ws_at hv.1, hce]) rfl (inb_iff hv.2) hd (ih H locs cells slots ls hlv hH hS hc hs)
    · rw [if_neg hv] at h; cases h
  · -- .aaload / .aaload
    simp only [Bool.and_eq_true, decide_eq_true_eq, List.any_eq_true] at hl
    obtain ⟨rfl, hnx⟩ := hl
    rcases st with _ | ⟨(j | j | j | j | _ | j | j), _ | ⟨(a | a | a | a | _ | a | a), st⟩⟩ <;> try (cases h; done)
    change (if isC M a 13 = true ∧ inb j (mH M a).2 = true then some (k + 1, lv, rfv (mR M a j.toNatClampNeg) :: st, M) else none) = some (k1, lv1, st1, M1) at h
    by_cases hv : isC M a 13 = true ∧ inb j (mH M a).2 = true
    · rw [if_pos hv] at h
      cases h
      rw [hnx] at ih
      have hce := cell_13 (X := X) (isC_iff hv.1).2.2
      have g := (ih H locs cells slots ls hlv hH hS hc hs)
      rw [List.map_cons, ← va_rf_m] at g
      exact aald_ok hx hb hE.1 hH.2 (a - 8) 3 (by rw [ws_at hv.1, hce]) rfl (inb_iff hv.2) hd g
    · rw [if_neg hv] at h; cases h
  · -- .iastore / .iastore
    simp only [Bool.and_eq_true, decide_eq_true_eq, List.any_eq_true] at hl
    obtain ⟨rfl, hnx⟩ := hl
    rcases st with _ | ⟨(x | x | x | x | _ | x | x), _ | ⟨(j | j | j | j | _ | j | j), _ | ⟨(a | a | a | a | _ | a | a), st⟩⟩⟩ <;> try (cases h; done)
    change (if isC M a 10 = true ∧ inb j (mH M a).2 = true then some (k + 1, lv, st, wI M (u2 (mI M) a j.toNatClampNeg x)) else none) = some (k1, lv1, st1, M1) at h
    by_cases hv : isC M a 10 = true ∧ inb j (mH M a).2 = true
    · rw [if_pos hv] at h
      cases h
      rw [hnx] at ih
      have hce := cell_10 (X := X) (isC_iff hv.1).2.2
      have hat : H[adr X a]? = some (vp_cell X.2.1.1 ((mH M a).2, .inl (mI M a))) := hH.2 (a - 8) (adr X a, .inl (X.2.1.1, (mH M a).2, .inl (mI M a))) (by rw [ws_at hv.1, hce])
      refine W.iast hx hb hat ((hE.1.2 0 _ rfl).1 (mH M a).2 (fun i => .int (mI M a i))) (fun q => by cases q) (by show ¬ (j < 0 ∨ (arrV _ _ _).slots.size ≤ _); rw [arrV_size]; exact inb_iff hv.2) rfl rfl hd fun H1 e9 z9 o9 => ih H1 _ cells slots ls hlv (hp_put (M1 := wI M (u2 (mI M) a j.toNatClampNeg x)) hv.1 hH rfl ?_ ?_ z9 o9) (hS.put z9 o9 (ab_adr hv.1)) hc hs
      · exact fun b hb9 => cell_same rfl (by first | exact u2_ne hb9 | rfl) (by first | exact u2_ne hb9 | rfl) rfl
      · exact st_i hv.1 e9
    · rw [if_neg hv] at h; cases h
  · -- .bastore / .bastore
    simp only [Bool.and_eq_true, decide_eq_true_eq, List.any_eq_true] at hl
    obtain ⟨rfl, hnx⟩ := hl
    rcases st with _ | ⟨(x | x | x | x | _ | x | x), _ | ⟨(j | j | j | j | _ | j | j), _ | ⟨(a | a | a | a | _ | a | a), st⟩⟩⟩ <;> try (cases h; done)
    change (if isC M a 12 = true ∧ inb j (mH M a).2 = true ∧ (x = 0 ∨ x = 1) then some (k + 1, lv, st, wI M (u2 (mI M) a j.toNatClampNeg x)) else none) = some (k1, lv1, st1, M1) at h
    by_cases hv : isC M a 12 = true ∧ inb j (mH M a).2 = true ∧ (x = 0 ∨ x = 1)
    · rw [if_pos hv] at h
      cases h
      rw [hnx] at ih
      have hce := cell_12 (X := X) (isC_iff hv.1).2.2
      have hat : H[adr X a]? = some (vp_cell X.2.1.2.2.1 ((mH M a).2, .inl (mI M a))) := hH.2 (a - 8) (adr X a, .inl (X.2.1.2.2.1, (mH M a).2, .inl (mI M a))) (by rw [ws_at hv.1, hce])
      refine W.zast hx hb hat ((hE.1.2 2 _ rfl).1 (mH M a).2 (fun i => .int (mI M a i))) (fun q => by cases q) (by show ¬ (j < 0 ∨ (arrV _ _ _).slots.size ≤ _); rw [arrV_size]; exact inb_iff hv.2.1) rfl rfl hd fun H1 e9 z9 o9 => ih H1 _ cells slots ls hlv (hp_put (M1 := wI M (u2 (mI M) a j.toNatClampNeg x)) hv.1 hH rfl ?_ ?_ z9 o9) (hS.put z9 o9 (ab_adr hv.1)) hc hs
      · exact fun b hb9 => cell_same rfl (by first | exact u2_ne hb9 | rfl) (by first | exact u2_ne hb9 | rfl) rfl
      · exact st_z hv.1 e9 hv.2.2
    · rw [if_neg hv] at h; cases h
  · -- .lastore / .lastore
    simp only [Bool.and_eq_true, decide_eq_true_eq, List.any_eq_true] at hl
    obtain ⟨rfl, hnx⟩ := hl
    rcases st with _ | ⟨(x | x | x | x | _ | x | x), _ | ⟨(j | j | j | j | _ | j | j), _ | ⟨(a | a | a | a | _ | a | a), st⟩⟩⟩ <;> try (cases h; done)
    change (if isC M a 11 = true ∧ inb j (mH M a).2 = true then some (k + 1, lv, st, wJ M (u2 (mJ M) a j.toNatClampNeg x)) else none) = some (k1, lv1, st1, M1) at h
    by_cases hv : isC M a 11 = true ∧ inb j (mH M a).2 = true
    · rw [if_pos hv] at h
      cases h
      rw [hnx] at ih
      have hce := cell_11 (X := X) (isC_iff hv.1).2.2
      have hat : H[adr X a]? = some (vp_cell X.2.1.2.1 ((mH M a).2, .inr (.inl (mJ M a)))) := hH.2 (a - 8) (adr X a, .inl (X.2.1.2.1, (mH M a).2, .inr (.inl (mJ M a)))) (by rw [ws_at hv.1, hce])
      refine W.last hx hb hat ((hE.1.2 1 _ rfl).1 (mH M a).2 (fun i => .long (mJ M a i))) (fun q => by cases q) (by show ¬ (j < 0 ∨ (arrV _ _ _).slots.size ≤ _); rw [arrV_size]; exact inb_iff hv.2) rfl rfl hd fun H1 e9 z9 o9 => ih H1 _ cells slots ls hlv (hp_put (M1 := wJ M (u2 (mJ M) a j.toNatClampNeg x)) hv.1 hH rfl ?_ ?_ z9 o9) (hS.put z9 o9 (ab_adr hv.1)) hc hs
      · exact fun b hb9 => cell_same rfl (by first | exact u2_ne hb9 | rfl) (by first | exact u2_ne hb9 | rfl) rfl
      · exact st_l hv.1 e9
    · rw [if_neg hv] at h; cases h
  · -- new
    rename_i ci i
    simp only [Bool.and_eq_true, decide_eq_true_eq, List.any_eq_true] at hl
    obtain ⟨⟨rfl, hnx⟩, q, hq, hq1, hq2, hq3⟩ := hl
    change (if ci < 6 then some (k + 1, lv, Value.ref (8 + mN M) :: st, mNew M 1 (nf ci) (fun _ => (ci, 0)) (fun _ _ => none)) else none) = some (k1, lv1, st1, M1) at h
    by_cases hv : ci < 6
    · rw [if_pos hv] at h
      cases h
      rw [hnx] at ih
      have hw := gwAt_in (List.all_eq_true.mp lkC_ok q hq)
      rw [hq1, hq2, hq3] at hw
      have hcN : mN M + 1 ≤ n0 + R.cells := hcN
      have hcS : mS M + nf ci ≤ s0 + R.slots := hcS
      have g := fun H1 => ih H1 locs (cells + 1) (slots + nf ci) ls hlv
      rw [List.map_cons, show vmp X (Value.ref (8 + mN M)) = Value.ref (adr X (8 + mN M)) from rfl, adr_c (by omega), show 8 + mN M - 8 = mN M by omega, ← hH.1] at g
      refine W.newcK hx hb hown (hts _ hw) (hts _ (lay_i hv).1) (hts _ (lay_i hv).2) rfl hd (by omega) (by omega) ((hE.1.1 ci _ (kl_at hv)).2.1) rfl fun H1 kC hkC e9 z9 o9 => g H1 (hp_new hE hts hH hv hkC e9 z9 o9) (va_S_new hE.2.2.2.2.2 hS z9 o9) ?_ ?_
      · show cells + 1 + n0 = mN M + 1
        omega
      · show slots + nf ci + s0 = mS M + nf ci
        omega
    · rw [if_neg hv] at h; cases h
  · -- newarray
    rename_i t t2
    simp only [Bool.and_eq_true, decide_eq_true_eq, List.any_eq_true] at hl
    obtain ⟨⟨rfl, hnx⟩, hck⟩ := hl
    rw [hck] at hd
    rcases st with _ | ⟨(n | n | n | n | _ | n | n), st⟩ <;> try (cases h; done)
    change (if ¬ n < 0 ∧ n.toNatClampNeg ≤ 100000 ∧ aty t ≠ 0 then some (k + 1, lv, Value.ref (8 + mN M) :: st, mNew M 1 n.toNatClampNeg (fun _ => (aty t, n.toNatClampNeg)) (fun _ _ => none)) else none) = some (k1, lv1, st1, M1) at h
    by_cases hv : ¬ n < 0 ∧ n.toNatClampNeg ≤ 100000 ∧ aty t ≠ 0
    · rw [if_pos hv] at h
      cases h
      rw [hnx] at ih
      have hcN : mN M + 1 ≤ n0 + R.cells := hcN
      have hcS : mS M + n.toNatClampNeg ≤ s0 + R.slots := hcS
      have g := fun H1 => ih H1 locs (cells + 1) (slots + n.toNatClampNeg) ls hlv
      rw [List.map_cons, show vmp X (Value.ref (8 + mN M)) = Value.ref (adr X (8 + mN M)) from rfl, adr_c (by omega), show 8 + mN M - 8 = mN M by omega, ← hH.1] at g
      refine va_newaK hx hb (hts _ (lay_at hv.2.2)) rfl hd rfl hv.1 rfl (cb_ok hv.2.2 hv.2.1) (by omega) (by omega) rfl fun H1 cA e9 z9 o9 hAr hNm => g H1 (hp_newa hE hH hv.2.2 e9 z9 o9 hNm) (va_S_new hE.2.2.2.2.2 hS z9 o9) ?_ ?_
      · show cells + 1 + n0 = mN M + 1
        omega
      · show slots + n.toNatClampNeg + s0 = mS M + n.toNatClampNeg
        omega
    · rw [if_neg hv] at h; cases h
  · -- multianewarray
    rename_i x1 x2 i dm
    simp only [Bool.and_eq_true, decide_eq_true_eq, List.any_eq_true] at hl
    obtain ⟨⟨rfl, hnx⟩, ⟨q, hq, hq1, hq2⟩, rfl⟩ := hl
    rcases st with _ | ⟨(w | w | w | w | _ | w | w), _ | ⟨(n | n | n | n | _ | n | n), st⟩⟩ <;> try (cases h; done)
    have hw := gwAt_in (List.all_eq_true.mp lkA_ok q hq)
    rw [hq1, hq2] at hw
    exact mna_ok hx hb hown hts hw hE hd hnx h hcN hcS hlv hH hS hc hs ih
  · -- .fadd / .invokestatic i
    simp only [Bool.and_eq_true, decide_eq_true_eq, List.any_eq_true] at hl
    obtain ⟨⟨rfl, hnx⟩, q, hq, hq1, hq2, hq3⟩ := hl
    rcases st with _ | ⟨(y | y | y | y | _ | y | y), _ | ⟨(x | x | x | x | _ | x | x), st⟩⟩ <;> try (cases h; done)
    change (if (st.map fun v => v.category).sum ≤ 8 then some (k + 1, lv, Value.int (if x < y then y else x) :: st, M) else none) = some (k1, lv1, st1, M1) at h
    by_cases hv : (st.map fun v => v.category).sum ≤ 8
    · rw [if_pos hv] at h
      cases h
      rw [hnx] at ih
      have hw := gwAt_in (List.all_eq_true.mp lkM_ok q hq)
      rw [hq1, hq2, hq3] at hw
      exact va_mmax hx hb (by rw [hml]; exact hlv.1.symm) hown (hts _ hw) (hts _ math_max.1) (hts _ math_max.2.1) (hts _ math_max.2.2) hRf (by rw [cats_m]; omega) hc' hs' hd (ih H locs cells slots ls hlv hH hS hc hs)
    · rw [if_neg hv] at h; cases h
  · -- .fsub / .invokestatic i
    simp only [Bool.and_eq_true, decide_eq_true_eq, List.any_eq_true] at hl
    obtain ⟨⟨rfl, hnx⟩, q, hq, hq1, hq2, hq3⟩ := hl
    rcases st with _ | ⟨(y | y | y | y | _ | y | y), _ | ⟨(x | x | x | x | _ | x | x), st⟩⟩ <;> try (cases h; done)
    change (if (st.map fun v => v.category).sum ≤ 8 then some (k + 1, lv, Value.int (if y < x then y else x) :: st, M) else none) = some (k1, lv1, st1, M1) at h
    by_cases hv : (st.map fun v => v.category).sum ≤ 8
    · rw [if_pos hv] at h
      cases h
      rw [hnx] at ih
      have hw := gwAt_in (List.all_eq_true.mp lkM_ok q hq)
      rw [hq1, hq2, hq3] at hw
      exact va_mmin hx hb (by rw [hml]; exact hlv.1.symm) hown (hts _ hw) (hts _ math_min.1) (hts _ math_min.2.1) (hts _ math_min.2.2) hRf (by rw [cats_m]; omega) hc' hs' hd (ih H locs cells slots ls hlv hH hS hc hs)
    · rw [if_neg hv] at h; cases h
  · -- .fmul / .invokestatic i
    simp only [Bool.and_eq_true, decide_eq_true_eq, List.any_eq_true] at hl
    obtain ⟨⟨rfl, hnx⟩, q, hq, hq1, hq2, hq3⟩ := hl
    rcases st with _ | ⟨(y | y | y | y | _ | y | y), _ | ⟨(x | x | x | x | _ | x | x), st⟩⟩ <;> try (cases h; done)
    change (if y = 0 ∨ 8 < (st.map fun v => v.category).sum then none else some (k + 1, lv, Value.int (if (x ^^^ y) < 0 ∧ ¬ (x - x / y * y) = 0 then (x - x / y * y) + y else (x - x / y * y)) :: st, M)) = some (k1, lv1, st1, M1) at h
    by_cases hv : y = 0 ∨ 8 < (st.map fun v => v.category).sum
    · rw [if_pos hv] at h; cases h
    · rw [if_neg hv] at h
      cases h
      rw [hnx] at ih
      have hw := gwAt_in (List.all_eq_true.mp lkM_ok q hq)
      rw [hq1, hq2, hq3] at hw
      exact fmod_ok hx hb (by rw [hml]; exact hlv.1.symm) hown (hts _ hw) hts hRf (by rw [cats_m]; omega) hc' hs' (fun q => hv (Or.inl q)) hd (ih H locs cells slots ls hlv hH hS hc hs)
  · cases hl
end Snd
