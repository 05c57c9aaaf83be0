/-! what a pure world is in the heap -/
abbrev Wp : Type := va_G × (ClassId × ClassId × ClassId × ClassId) × Nat × (Nat → Nat)
def adr (X : Wp) (a : Nat) : Nat := if a < 8 then X.2.2.2 a else X.2.2.1 + (a - 8)
def vmp (X : Wp) : Value → Value
  | .ref a => .ref (adr X a)
  | v => v
def Ab (X : Wp) : Nat → Prop := fun q => X.2.2.1 ≤ q
def cellE (X : Wp) (M : Me) (a : Nat) : va_E :=
  if (mH M a).1 = 10 then .inl (X.2.1.1, (mH M a).2, .inl (mI M a))
  else if (mH M a).1 = 11 then .inl (X.2.1.2.1, (mH M a).2, .inr (.inl (mJ M a)))
  else if (mH M a).1 = 12 then .inl (X.2.1.2.2.1, (mH M a).2, .inl (mI M a))
  else if (mH M a).1 = 13 then .inl (X.2.1.2.2.2, (mH M a).2, .inr (.inr (.inr (.inr (fun j => (mR M a j).map (adr X))))))
  else .inr ((mH M a).1, (List.range (nf (mH M a).1)).map (fun f => vmp X (fval M a (mH M a).1 f)))
def wsM (X : Wp) (M : Me) : va_W := (List.range (mN M)).map (fun k => (X.2.2.1 + k, cellE X M (8 + k)))
def tysL (X : Wp) : List (ClassId × FieldType) := [(X.2.1.1, .int), (X.2.1.2.1, .long), (X.2.1.2.2.1, .boolean), (X.2.1.2.2.2, .array .int)]
def Hp (X : Wp) (M : Me) (H : Heap) : Prop := H.size = X.2.2.1 + mN M ∧ va_P X.1 kl (wsM X M) H
def Ev (K : Ka) (X : Wp) (U : State) : Prop := va_K X.1 kl (tysL X) U ∧ (∀ q ∈ lkN, va_Nw (.methodLinkNest (cnm q.1) q.2.1 (me q.2.2.1).1 "CompassTowers") U) ∧ va_Nw (.arrayOver (.array .int)) U ∧ (∀ j, j < 5 → va_T .int (X.2.2.2 j) (K j).1 (fun i => .int ((K j).2 i)) (Ab X) U U.heap) ∧ (∀ j, j < 4 → va_Z (stC j) (stN j) "[I" (.ref (X.2.2.2 j)) (Ab X) U U.heap) ∧ X.2.2.1 ≤ U.heap.size
theorem vmp_cat (X : Wp) (v : Value) : (vmp X v).category = v.category := by cases v <;> rfl
def lvm (X : Wp) (lv : Lv) : List (Nat × Value) := lv.map (fun q => (q.1, vmp X q.2))
theorem lget_in {X : Wp} : ∀ {lv : Lv} {i : Nat} {v : Value}, lget lv i = some v → (i, vmp X v) ∈ lvm X lv
  | [], _, _, h => by cases h
  | q :: r, i, v, h => by
    rw [lget] at h
    by_cases e : q.1 = i
    · rw [if_pos e] at h
      cases h
      subst e
      exact List.mem_cons_self
    · rw [if_neg e] at h
      exact List.mem_cons_of_mem _ (lget_in h)
theorem lget_at {X : Wp} {lv : Lv} {i nL : Nat} {v : Value} {ls : Array Slot} (h : lget lv i = some v) (hl : lv_has ls nL (lvm X lv)) : ls[i]? = some (.val (vmp X v)) := hl.2.2 _ (lget_in h)
theorem lset1_m (X : Wp) (lv : Lv) (i : Nat) (v : Value) : (i, vmp X v) :: (lvm X lv).filter (fun q => !(q.1 == i) && !(q.1 + 1 == i && q.2.category == 2)) = lvm X (lset1 lv i v) := by
  unfold lset1 lvm
  rw [List.map_cons, List.filter_map]
  congr 2
  refine List.filter_congr (fun q _ => ?_)
  simp [vmp_cat]
theorem lset2_m (X : Wp) (lv : Lv) (i : Nat) (v : Value) : (i, vmp X v) :: (lvm X lv).filter (fun q => !(q.1 == i) && (!(q.1 == i + 1) && !(q.1 + 1 == i && q.2.category == 2))) = lvm X (lset2 lv i v) := by
  unfold lset2 lvm
  rw [List.map_cons, List.filter_map]
  congr 2
  refine List.filter_congr (fun q _ => ?_)
  simp [vmp_cat]
theorem wsM_get {X : Wp} {M : Me} {k : Nat} (h : k < mN M) : (wsM X M)[k]? = some (X.2.2.1 + k, cellE X M (8 + k)) := by
  unfold wsM
  rw [List.getElem?_map, List.getElem?_range h]
  rfl
theorem wsM_out {X : Wp} {M : Me} {k : Nat} (h : ¬ k < mN M) : (wsM X M)[k]? = none := by
  unfold wsM
  rw [List.getElem?_eq_none]
  simp
  omega
theorem wsM_D (X : Wp) (M : Me) : va_D (Ab X) (wsM X M) := by
  refine ⟨fun i j p q hi hj h => ?_, fun k q hk => ?_⟩
  · by_cases h1 : i < mN M
    · by_cases h2 : j < mN M
      · rw [wsM_get h1] at hi
        rw [wsM_get h2] at hj
        cases hi
        cases hj
        have : X.2.2.1 + i = X.2.2.1 + j := h
        omega
      · rw [wsM_out h2] at hj; cases hj
    · rw [wsM_out h1] at hi; cases hi
  · by_cases h1 : k < mN M
    · rw [wsM_get h1] at hk
      cases hk
      exact Nat.le_add_right _ _
    · rw [wsM_out h1] at hk; cases hk
/-- one cell is another -/
theorem wsM_set {X : Wp} {M M1 : Me} {k : Nat} {e : va_E} (hn : mN M1 = mN M) (he : e = cellE X M1 (8 + k)) (ho : ∀ b, b ≠ 8 + k → cellE X M1 b = cellE X M b) : (wsM X M).set k (X.2.2.1 + k, e) = wsM X M1 := by
  subst he
  refine List.ext_getElem? (fun i => ?_)
  by_cases h : i < mN M
  · rw [wsM_get (M := M1) (by rw [hn]; exact h), List.getElem?_set]
    by_cases e : k = i
    · subst e
      rw [if_pos rfl, if_pos]
      unfold wsM
      simpa using h
    · rw [if_neg e, wsM_get h, ho (8 + i) (by omega)]
  · rw [wsM_out (M := M1) (by rw [hn]; exact h), List.getElem?_eq_none]
    unfold wsM
    simp
    omega
theorem inb_iff {j : Int32} {n : Nat} (h : inb j n = true) : vp_in j n := by
  unfold vp_in
  simp only [inb, Bool.not_eq_true', Bool.or_eq_false_iff, decide_eq_false_iff_not] at h
  rintro (q | q)
  · exact h.1 q
  · exact h.2 q
theorem adr_c {X : Wp} {a : Nat} (h : 8 ≤ a) : adr X a = X.2.2.1 + (a - 8) := by
  unfold adr
  rw [if_neg (by omega)]
theorem adr_k {X : Wp} {a : Nat} (h : a < 8) : adr X a = X.2.2.2 a := by
  unfold adr
  rw [if_pos h]
/-- the cell of a shape, at its place -/
theorem ws_at {X : Wp} {M : Me} {a t : Nat} (h : isC M a t = true) : (wsM X M)[a - 8]? = some (adr X a, cellE X M a) := by
  obtain ⟨h1, h2, -⟩ := isC_iff h
  rw [wsM_get (by omega), adr_c h1, show 8 + (a - 8) = a by omega]
theorem ws_set {X : Wp} {M M1 : Me} {a t : Nat} {e : va_E} (h : isC M a t = true) (hn : mN M1 = mN M) (he : e = cellE X M1 a) (ho : ∀ b, b ≠ a → cellE X M1 b = cellE X M b) : (wsM X M).set (a - 8) (adr X a, e) = wsM X M1 := by
  obtain ⟨h1, h2, -⟩ := isC_iff h
  rw [adr_c h1]
  refine wsM_set hn ?_ (fun b hb => ho b (by omega))
  rw [he, show 8 + (a - 8) = a by omega]
theorem cell_same {X : Wp} {M M1 : Me} {a : Nat} (h1 : mH M1 a = mH M a) (h2 : mI M1 a = mI M a) (h3 : mJ M1 a = mJ M a) (h4 : mR M1 a = mR M a) : cellE X M1 a = cellE X M a := by
  unfold cellE fval
  rw [h1, h2, h3, h4]
theorem cell_10 {X : Wp} {M : Me} {a : Nat} (h : (mH M a).1 = 10) : cellE X M a = .inl (X.2.1.1, (mH M a).2, .inl (mI M a)) := by
  unfold cellE; rw [if_pos h]
theorem cell_11 {X : Wp} {M : Me} {a : Nat} (h : (mH M a).1 = 11) : cellE X M a = .inl (X.2.1.2.1, (mH M a).2, .inr (.inl (mJ M a))) := by
  unfold cellE; rw [if_neg (by omega), if_pos h]
theorem cell_12 {X : Wp} {M : Me} {a : Nat} (h : (mH M a).1 = 12) : cellE X M a = .inl (X.2.1.2.2.1, (mH M a).2, .inl (mI M a)) := by
  unfold cellE; rw [if_neg (by omega), if_neg (by omega), if_pos h]
theorem cell_13 {X : Wp} {M : Me} {a : Nat} (h : (mH M a).1 = 13) : cellE X M a = .inl (X.2.1.2.2.2, (mH M a).2, .inr (.inr (.inr (.inr (fun j => (mR M a j).map (adr X)))))) := by
  unfold cellE; rw [if_neg (by omega), if_neg (by omega), if_neg (by omega), if_pos h]
theorem cell_o {X : Wp} {M : Me} {a ci : Nat} (h : (mH M a).1 = ci) (hc : ci < 6) : cellE X M a = .inr (ci, (List.range (nf ci)).map (fun f => vmp X (fval M a ci f))) := by
  subst h
  unfold cellE; rw [if_neg (by omega), if_neg (by omega), if_neg (by omega), if_neg (by omega)]
theorem va_rf_m (X : Wp) (r : Option Nat) : va_rf (r.map (adr X)) = vmp X (rfv r) := by cases r <;> rfl
theorem kl_at {ci : Nat} (h : ci < 6) : kl[ci]? = some (RXf ci, TXf ci, nf ci) := by
  rcases (show ci = 0 ∨ ci = 1 ∨ ci = 2 ∨ ci = 3 ∨ ci = 4 ∨ ci = 5 by omega) with rfl | rfl | rfl | rfl | rfl | rfl <;> rfl
theorem lay_0 : wsX00.all (fun w => decide (w ∈ lw_tbl) && goodWord w) = true := by decide +kernel
theorem lay_1 : wsX10.all (fun w => decide (w ∈ lw_tbl) && goodWord w) = true := by decide +kernel
theorem lay_2 : wsX20.all (fun w => decide (w ∈ lw_tbl) && goodWord w) = true := by decide +kernel
theorem lay_3 : wsX30.all (fun w => decide (w ∈ lw_tbl) && goodWord w) = true := by decide +kernel
theorem lay_4 : wsX40.all (fun w => decide (w ∈ lw_tbl) && goodWord w) = true := by decide +kernel
theorem lay_5 : wsX50.all (fun w => decide (w ∈ lw_tbl) && goodWord w) = true := by decide +kernel
theorem lay_in {l : List Cond} (h : l.all (fun w => decide (w ∈ lw_tbl) && goodWord w) = true) : ∀ w ∈ l, w ∈ gw := fun w hw => by
  have := List.all_eq_true.mp h w hw
  simp only [Bool.and_eq_true, decide_eq_true_eq] at this
  exact List.mem_filter.mpr this
theorem lay_f {ci : Nat} (h : ci < 6) : ∀ w ∈ u_ws (RXf ci) (TXf ci) (nf ci), w ∈ gw := by
  rcases (show ci = 0 ∨ ci = 1 ∨ ci = 2 ∨ ci = 3 ∨ ci = 4 ∨ ci = 5 by omega) with rfl | rfl | rfl | rfl | rfl | rfl
  · exact lay_in lay_0
  · exact lay_in lay_1
  · exact lay_in lay_2
  · exact lay_in lay_3
  · exact lay_in lay_4
  · exact lay_in lay_5
theorem nm_f {ci : Nat} (h : ci < 6) : ∀ a, a < nf ci → ∀ b, b < nf ci → a ≠ b → (TXf ci a).2.1 ≠ (TXf ci b).2.1 := by
  rcases (show ci = 0 ∨ ci = 1 ∨ ci = 2 ∨ ci = 3 ∨ ci = 4 ∨ ci = 5 by omega) with rfl | rfl | rfl | rfl | rfl | rfl
  · exact nmX0
  · exact nmX1
  · exact nmX2
  · exact nmX3
  · exact nmX4
  · exact nmX5
theorem ty_f {ci : Nat} (h : ci < 6) : ∀ k, k < nf ci → parseFieldDescriptor (TXf ci k).2.2.1 = some (tyf ci k) := by
  rcases (show ci = 0 ∨ ci = 1 ∨ ci = 2 ∨ ci = 3 ∨ ci = 4 ∨ ci = 5 by omega) with rfl | rfl | rfl | rfl | rfl | rfl
  · exact tyX0_ok
  · exact tyX1_ok
  · exact tyX2_ok
  · exact tyX3_ok
  · exact tyX4_ok
  · exact tyX5_ok
theorem lay_ic : ((List.range 6).map (fun ci => decide (Cond.instantiable (RXf ci) (nf ci) ∈ lw_tbl) && (goodWord (Cond.instantiable (RXf ci) (nf ci)) && (decide (Cond.initialized (RXf ci) ∈ lw_tbl) && goodWord (Cond.initialized (RXf ci)))))).all id = true := by decide +kernel
theorem lay_i {ci : Nat} (h : ci < 6) : Cond.instantiable (RXf ci) (nf ci) ∈ gw ∧ Cond.initialized (RXf ci) ∈ gw := by
  have h1 := List.all_eq_true.mp lay_ic _ (List.mem_map_of_mem (List.mem_range.mpr h))
  simp only [id_eq, Bool.and_eq_true, decide_eq_true_eq] at h1
  exact ⟨List.mem_filter.mpr ⟨h1.1, h1.2.1⟩, List.mem_filter.mpr ⟨h1.2.2.1, h1.2.2.2⟩⟩
theorem lay_aw : (decide (Cond.arrayClass .int ∈ lw_tbl) && (decide (Cond.arrayClass .long ∈ lw_tbl) && decide (Cond.arrayClass .boolean ∈ lw_tbl))) = true := by decide +kernel
theorem lay_a : Cond.arrayClass .int ∈ gw ∧ Cond.arrayClass .long ∈ gw ∧ Cond.arrayClass .boolean ∈ gw := by
  have h1 := lay_aw
  simp only [Bool.and_eq_true, decide_eq_true_eq] at h1
  exact ⟨List.mem_filter.mpr ⟨h1.1, rfl⟩, List.mem_filter.mpr ⟨h1.2.1, rfl⟩, List.mem_filter.mpr ⟨h1.2.2, rfl⟩⟩
theorem lay_ow : (decide (Cond.instanceMethod objectInit ∈ lw_tbl) && (decide (Cond.code objectInit ⟨#[0xb1]⟩ 1 none ∈ lw_tbl) && (goodWord (Cond.instanceMethod objectInit) && goodWord (Cond.code objectInit ⟨#[0xb1]⟩ 1 none)))) = true := by decide +kernel
theorem lay_o : Cond.instanceMethod objectInit ∈ gw ∧ Cond.code objectInit ⟨#[0xb1]⟩ 1 none ∈ gw := by
  have h1 := lay_ow
  simp only [Bool.and_eq_true, decide_eq_true_eq] at h1
  exact ⟨List.mem_filter.mpr ⟨h1.1, h1.2.2.1⟩, List.mem_filter.mpr ⟨h1.2.1, h1.2.2.2⟩⟩
