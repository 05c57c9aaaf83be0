/-! from runs of the pure machine to contracts -/
theorem pst_mono {K : Ka} {ins : Instr} {k k1 : Nat} {lv lv1 : Lv} {st st1 : List Value} {M M1 : Me} (h : pst K ins k lv st M = some (k1, lv1, st1, M1)) : mN M ≤ mN M1 ∧ mS M ≤ mS M1 := by
  unfold pst at h
  split at h
  all_goals (repeat' (split at h))
  all_goals first
    | (cases h; done)
    | (cases h; exact ⟨Nat.le_refl _, Nat.le_refl _⟩)
    | (cases h; exact ⟨Nat.le_add_right _ _, Nat.le_add_right _ _⟩)
theorem pgo_mono {K : Ka} {call : Nat → List Value → Me → Option (Option Value × Me)} {code : List Instr} (hc : ∀ j as M r M1, call j as M = some (r, M1) → mN M ≤ mN M1 ∧ mS M ≤ mS M1) : ∀ (f k : Nat) (lv : Lv) (st : List Value) (M : Me) (r : Option Value) (M1 : Me), pgo K call code f k lv st M = some (r, M1) → mN M ≤ mN M1 ∧ mS M ≤ mS M1
  | 0, _, _, _, _, _, _, h => by cases h
  | f + 1, k, lv, st, M, r, M1, h => by
    rw [pgo] at h
    split at h
    · cases h
    · split at h
      · cases h
        exact ⟨Nat.le_refl _, Nat.le_refl _⟩
      · split at h
        · split at h
          · split at h
            · next hcall =>
              have h1 := hc _ _ _ _ _ hcall
              have h2 := pgo_mono hc f _ _ _ _ _ _ h
              exact ⟨Nat.le_trans h1.1 h2.1, Nat.le_trans h1.2 h2.2⟩
            · cases h
          · cases h
        · split at h
          · next hst =>
            have h1 := pst_mono hst
            have h2 := pgo_mono hc f _ _ _ _ _ _ h
            exact ⟨Nat.le_trans h1.1 h2.1, Nat.le_trans h1.2 h2.2⟩
          · cases h
theorem pex_mono {K : Ka} {f : Nat} : ∀ (d j : Nat) (as : List Value) (M : Me) (r : Option Value) (M1 : Me), pex K f d j as M = some (r, M1) → mN M ≤ mN M1 ∧ mS M ≤ mS M1
  | 0, _, _, _, _, _, h => by cases h
  | d + 1, j, as, M, r, M1, h => by
    rw [pex] at h
    split at h
    · cases h
    · split at h
      · split at h
        · next hgo =>
          split at h
          · cases h
            exact pgo_mono (fun j as M r M1 h => pex_mono d j as M r M1 h) _ _ _ _ _ _ _ hgo
          · cases h
        · cases h
      · cases h
theorem aov_spec {s : State} (h : va_Nw (.arrayOver (.array .int)) s) : ∃ comp c k, s.vm.findClass (FieldType.array .int).toString = some comp ∧ (s.vm.classes.findIdx? fun (x : Class) => match x.kind with | .array component _ => component == comp | _ => false) = some c ∧ s.vm.classes[c]? = some k ∧ k.kind = .array comp (.array .int) ∧ s.vm.findClass ("[" ++ (FieldType.array .int).toString) = some c := by
  unfold va_Nw Cond.before at h
  simp only [Cond.holds, Cond.value, beq_iff_eq] at h
  cases hc : s.vm.findClass (FieldType.array .int).toString with
  | none => simp [hc] at h
  | some comp =>
    simp only [hc, Option.bind_some, Option.bind_eq_some_iff, Option.map_eq_some_iff] at h
    obtain ⟨c, hi, k, hk, hb⟩ := h
    obtain ⟨hlt, hp, -⟩ := Array.findIdx?_eq_some_iff_getElem.mp hi
    have hkk : s.vm.classes[c] = k := (Array.getElem?_eq_some_iff.mp hk).2
    rw [hkk] at hp
    cases hkind : k.kind with
    | array component ty =>
      rw [hkind] at hb hp
      simp at hb hp
      exact ⟨comp, c, k, rfl, hi, hk, by rw [hkind, hp, hb.1], hb.2⟩
    | _ => rw [hkind] at hb; simp at hb
theorem aov_moved {u U : State} (hvm : u.vm.Alike U.vm) (h : va_Nw (.arrayOver (.array .int)) u) : va_Nw (.arrayOver (.array .int)) U := by
  obtain ⟨comp, c, k, h1, h2, h3, h4, h5⟩ := aov_spec h
  obtain ⟨k', hk', he⟩ := hvm.2.2 _ _ h3
  have hi : (U.vm.classes.findIdx? fun (x : Class) => match x.kind with | .array component _ => component == comp | _ => false) = some c := by
    have hb : U.vm.bare = u.vm.bare := by first | exact hvm.bare_eq | exact hvm.bare_eq.symm
    have e1 := va_idx_bare U.vm comp
    rw [hb] at e1
    exact e1.symm.trans ((va_idx_bare u.vm comp).trans h2)
  have hkind : k'.kind = .array comp (.array .int) := by rw [he]; exact h4
  have f1 : U.vm.findClass (FieldType.array .int).toString = some comp := by rw [hvm.findClass]; exact h1
  have f2 : U.vm.findClass ("[" ++ (FieldType.array .int).toString) = some c := by rw [hvm.findClass]; exact h5
  unfold va_Nw Cond.before Cond.holds
  simp only [Cond.value]
  rw [f1, Option.bind_some]
  refine (congrArg (fun o : Option Nat => (o.bind (fun c => (U.vm.classes[c]?).map fun (k : Class) => match k.kind with | .array _ ty => decide (ty = FieldType.array .int) && decide (U.vm.findClass ("[" ++ (FieldType.array .int).toString) = some c) | _ => false) == some true)) hi).trans ?_
  simp [hk', hkind, f2]
/-- the contract's start, its end, its words, its room -/
def PcJ (K : Ka) (X : Wp) (as : List Value) (M : Me) : Array Value → State → Prop := va_Pc (as.map (vmp X)) (fun U => Ev K X U ∧ Hp X M U.heap)
def QcJ (X : Wp) (r : Option Value) (M1 : Me) : Array Value → State → Outcome → State → Prop := fun _ st o t => o = .returned (r.map (vmp X)) ∧ Hp X M1 t.heap ∧ va_F (Ab X) st t
def wsJ (j : Nat) : List Cond := .code (me j).1 (me j).2.1 (me j).2.2.1 (me j).2.2.2.1 :: gw
def rmD (d c w : Nat) : Room := { frames := d, cells := c, slots := w, locals := 60 * d }
def Ct (K : Ka) (X : Wp) (l : Launch) (d j : Nat) (as : List Value) (M : Me) (r : Option Value) (M1 : Me) : Prop :=
  Met l (me j).1 (wsJ j) (rmD d (mN M1 - mN M) (mS M1 - mS M)) (PcJ K X as M) (QcJ X r M1) (mN M1 - mN M) (mS M1 - mS M) (Ab X)
theorem Ev.at {K : Ka} {X : Wp} {s U : State} (h : Ev K X s) (hW : s.WarmedH U.vm) (hz : s.heap.size ≤ U.heap.size) (hk : ∀ a : Nat, a < s.heap.size → ¬ Ab X a → U.heap[a]? = s.heap[a]?) : Ev K X U := by
  obtain ⟨h1, h2, h3, h4, h5, h6⟩ := h
  exact ⟨va_K.moved hW.alike h1, fun q hq => va_Nw.warmM hW (h2 q hq), aov_moved hW.alike h3, fun j hj => ((h4 j hj).moved hW.alike).kept hk, fun j hj => ((h5 j hj).moved hW.alike).kept hk, Nat.le_trans h6 hz⟩
theorem PcJ_blind (K : Ka) (X : Wp) (as : List Value) (M : Me) : FrameBlind (PcJ K X as M) := by
  intro a U g mk h
  obtain ⟨h0, ⟨h1, h2, h3, h4, h5, h6⟩, h7⟩ := h
  exact ⟨h0, ⟨va_K.moved (u := U) (U := U.calling g mk a) (Vm.Alike.refl U.vm) h1, fun q hq => va_Nw.same rfl (u := U) (U := U.calling g mk a) rfl (h2 q hq), aov_moved (u := U) (U := U.calling g mk a) (Vm.Alike.refl U.vm) h3, fun j hj => va_T.moved (u := U) (U := U.calling g mk a) (Vm.Alike.refl U.vm) (h4 j hj), fun j hj => va_Z.moved (u := U) (U := U.calling g mk a) (Vm.Alike.refl U.vm) (h5 j hj), h6⟩, h7⟩
theorem gw_all {L : List Cond} (h : ∀ w ∈ L, w ∈ gw) : GoodIn gw L := fun w hw => gw_good w (h w hw)
section Run
variable {p : Program} {l : Launch} {e : Env} {R : Room} {s : State} {m : MethodId} {args : Array Value} {below : List Frame} {meth : Method} {c : Code} {H : Heap} {locs : List Loc} {cells slots : Nat} {Q : State → Prop}
variable {pc : Nat} {ls : Array Slot} {rest st0 : List Value} {cc : ByteArray} {a : Array Value} {mc ms : Nat}
theorem call_go {X : Wp} {r : Option Value} {M1 : Me} (hr : va_Run p l e R s m args below meth c H locs cells slots mc ms (F0 m pc ls st0) rest (QcJ X r M1 a) (Ab X)) (hS : va_S (Ab X) s.heap H locs)
    (kk : ∀ (H1 : Heap) (locs1 : List Loc), Hp X M1 H1 → va_S (Ab X) s.heap H1 locs1 → W p l e R s m args below meth c H1 locs1 (cells + mc) (slots + ms) Q (F0 m (pc + 3) ls ((r.map (vmp X)).toList ++ rest))) : W p l e R s m args below meth c H locs cells slots Q (F0 m pc ls st0) := by
  intro T hT X0
  obtain ⟨v, st₀, t, T', L, h0, X', hL, e1, e2, ⟨hv, hh, hz, hk⟩, st⟩ := hr T hT X0
  cases hv
  rw [h0] at hz hk
  obtain ⟨t2, a1, b1⟩ := kk T'.heap (locs ++ L) (by rw [e1]; exact hh) ⟨Nat.le_trans hS.1 (by rw [e1]; exact hz), fun q h1 h2 => by rw [e1, hk q (Nat.lt_of_lt_of_le h1 hS.1) h2]; exact hS.2.1 q h1 h2, fun q hq => by
      rcases List.mem_append.mp hq with h | h
      · exact hS.2.2 q h
      · exact hL q h⟩ T' rfl X'
  exact ⟨t2, st t2 a1, b1⟩
/-- what holds of every method of the table that may be called -/
def mOk (j : Nat) : Prop := mwOk j = true ∧ chkE (me j) = true ∧ Cond.code (me j).1 (me j).2.1 (me j).2.2.1 (me j).2.2.2.1 ∈ gw
theorem wsJ_gw {j : Nat} (h : mOk j) : ∀ w ∈ wsJ j, w ∈ gw := fun w hw => by
  rcases List.mem_cons.mp hw with rfl | hw
  · exact h.2.2
  · exact hw
theorem mw_facts {j : Nat} (h : mwOk j = true) : Cond.initialized (me j).1.cls ∈ gw ∧ ((me j).2.2.2.2.2.1 = 99 → Cond.static (me j).1 ∈ gw) ∧ ((me j).2.2.2.2.2.1 ≠ 99 → Cond.instanceMethod (me j).1 ∈ gw ∧ ((me j).1.name ≠ "<init>" → Cond.selects (me j).1.cls (me j).1 (me j).1 ∈ gw)) ∧ plainName (me j).1.cls = true ∧ ((me j).1.cls ≠ "java/lang/invoke/MethodHandle" ∧ (me j).1.cls ≠ "java/lang/invoke/VarHandle") ∧ (parseMethodDescriptor (me j).1.desc).map (fun d => d.parameters.length + (if (me j).2.2.2.2.2.1 = 99 then 0 else 1)) = some (me j).2.2.2.2.1 ∧ (me j).2.2.1 ≤ 40 ∧ (me j).1.cls = cnm (me j).2.2.2.2.2.2.1 ∧ ((me j).2.2.2.2.2.1 = 99 ∨ ((me j).2.2.2.2.2.1 = (me j).2.2.2.2.2.2.1 ∧ (me j).2.2.2.2.2.1 < 6)) := by
  simp only [mwOk, Bool.and_eq_true, decide_eq_true_eq] at h
  obtain ⟨h1, h2, h3, h4, h5, h6, h7, h8⟩ := h
  refine ⟨gwAt_in h1, fun q => ?_, fun q => ?_, h3, h4, h5, h6, h7, h8⟩
  · rw [if_pos q] at h2
    exact gwAt_in h2
  · rw [if_neg q, Bool.and_eq_true] at h2
    refine ⟨gwAt_in h2.1, fun q2 => ?_⟩
    have h9 := h2.2
    rw [if_neg q2] at h9
    exact gwAt_in h9
theorem cnm_R {ci : Nat} (h : ci < 6) : cnm ci = RXf ci := by
  rcases (show ci = 0 ∨ ci = 1 ∨ ci = 2 ∨ ci = 3 ∨ ci = 4 ∨ ci = 5 by omega) with rfl | rfl | rfl | rfl | rfl | rfl <;> rfl
theorem rcv_ref {c : Nat} {as : List Value} {M : Me} (hc : c ≠ 99) (h : rcv c as M = true) : ∃ b r, as = .ref b :: r ∧ isC M b c = true := by
  unfold rcv at h
  rw [if_neg hc] at h
  rcases as with _ | ⟨(b | b | b | b | _ | b | b), r⟩ <;> first | exact ⟨b, r, rfl, h⟩ | cases h
theorem drop_take_st {st : List Value} {X : Wp} {n : Nat} : st.map (vmp X) = (((st.take n).reverse).map (vmp X)).reverse ++ (st.drop n).map (vmp X) := by
  rw [← List.map_reverse, List.reverse_reverse, ← List.map_append, List.take_append_drop]
theorem nar_me {j : Nat} (h : j < 169) : nar j = (me j).2.2.2.2.1 := by
  unfold nar me
  cases hm : mT[j]? with
  | none =>
    have : mT.length ≤ j := List.getElem?_eq_none_iff.mp hm
    have h2 : mT.length = 169 := rfl
    omega
  | some e => rw [List.getD_eq_getElem?_getD, hm]; rfl
set_option maxHeartbeats 2000000 in
/-- A CALL -/
theorem call_ok {K : Ka} {X : Wp} {oc nL f d : Nat} {pcs : List Nat} (hx : p.tables.exec = Jvm.exec) (hb : c.code = cc) (hml : c.maxLocals = nL) (hown : s.vm.findClass (cnm oc) = some m.cls) (hts : ∀ w ∈ gw, w.before args s = true) (hE : Ev K X s) (hRf : d + 1 ≤ R.frames) (hRl : 60 * d + 60 ≤ R.locals) (hmo : ∀ j, j < 165 → mOk j)
    {j k ln : Nat} {lv : Lv} {st : List Value} {M M1 : Me} {r : Option Value} {pu re : Instr} (hpu : isCall pu = some j) (hd : decode cc (pcs.getD k 0) = .ok (re, ln)) (hl : lnkC oc pcs k ln pu re = true) (hn : nar j ≤ st.length ∧ ((st.drop (nar j)).map fun v => v.category).sum ≤ 8) (hrun : pex K f d j ((st.take (nar j)).reverse) M = some (r, M1)) (hct : Ct K X l d j ((st.take (nar j)).reverse) M r M1) {n0 s0 : Nat} (hcN : mN M1 ≤ n0 + R.cells) (hcS : mS M1 ≤ s0 + R.slots)
    (hlv : lv_has ls nL (lvm X lv)) (hH : Hp X M H) (hS : va_S (Ab X) s.heap H locs) (hc : cells + n0 = mN M) (hs : slots + s0 = mS M)
    (ih : ∀ (H : Heap) (locs : List Loc) (cells slots : Nat) (ls : Array Slot), lv_has ls nL (lvm X lv) → Hp X M1 H → va_S (Ab X) s.heap H locs → cells + n0 = mN M1 → slots + s0 = mS M1 → W p l e R s m args below meth c H locs cells slots Q (F0 m (pcs.getD (k + 1) 0) ls ((r.toList ++ st.drop (nar j)).map (vmp X)))) :
    W p l e R s m args below meth c H locs cells slots Q (F0 m (pcs.getD k 0) ls (st.map (vmp X))) := by
  have hmono := pex_mono _ _ _ _ _ _ hrun
  have hre : (r.toList ++ st.drop (nar j)).map (vmp X) = (r.map (vmp X)).toList ++ (st.drop (nar j)).map (vmp X) := by cases r <;> rfl
  rw [hre] at ih
  have go : ∀ {a : Array Value}, pcs.getD (k + 1) 0 = pcs.getD k 0 + 3 → va_Run p l e R s m args below meth c H locs cells slots (mN M1 - mN M) (mS M1 - mS M) (F0 m (pcs.getD k 0) ls (st.map (vmp X))) ((st.drop (nar j)).map (vmp X)) (QcJ X r M1 a) (Ab X) → W p l e R s m args below meth c H locs cells slots Q (F0 m (pcs.getD k 0) ls (st.map (vmp X))) := by
    intro a hnx hr
    refine call_go hr hS (fun H1 locs1 hH1 hS1 => ?_)
    rw [hnx] at ih
    exact ih H1 locs1 _ _ ls hlv hH1 hS1 (by omega) (by omega)
  have hW : 2 * (F0 m (pcs.getD k 0) ls (st.map (vmp X))).monitorRoom + (((st.drop (nar j)).map (vmp X)).map fun v => v.category).sum ≤ 8 := by
    rw [cats_m]
    exact (by show 2 * 0 + _ ≤ 8; have := hn.2; omega)
  have hf : cells + (mN M1 - mN M) ≤ R.cells ∧ slots + (mS M1 - mS M) ≤ R.slots := ⟨by omega, by omega⟩
  have hpre : PreS s H (PcJ K X ((st.take (nar j)).reverse) M) (((st.take (nar j)).reverse).map (vmp X)) := ⟨PcJ_blind K X _ M, fun U hU hWm => ⟨rfl, hE.at hWm (by rw [hU]; exact hS.1) (fun q h1 h2 => by rw [hU]; exact hS.2.1 q h1 h2), by rw [hU]; exact hH⟩⟩
  cases d with
  | zero => cases hrun
  | succ d =>
  have hpx := hrun
  rw [pex] at hpx
  split at hpx
  · cases hpx
  · next e0 hmT =>
    have hme : me j = e0 := by unfold me; rw [List.getD_eq_getElem?_getD, hmT]; rfl
    have hnj : nar j = e0.2.2.2.2.1 := by unfold nar; rw [hmT]
    split at hpx
    · next hg =>
      obtain ⟨hg1, hg2, hg3⟩ := hg
      have hroom : j < 165 → (rmD (d + 1) (mN M1 - mN M) (mS M1 - mS M)).frames + 1 ≤ R.frames ∧ 8 + ((me j).2.2.1 + 11) + (rmD (d + 1) (mN M1 - mN M) (mS M1 - mS M)).locals ≤ R.locals := by
        intro hj
        have h40 := (mw_facts (hmo j hj).1).2.2.2.2.2.2.1
        refine ⟨hRf, ?_⟩
        show 8 + ((me j).2.2.1 + 11) + 60 * (d + 1) ≤ R.locals
        omega
      have argsplit : ∀ b as, (st.take (nar j)).reverse = Value.ref b :: as → st.map (vmp X) = (as.map (vmp X)).reverse ++ .ref (adr X b) :: (st.drop (nar j)).map (vmp X) := by
        intro b as h
        rw [drop_take_st (X := X) (n := nar j), h]
        simp [vmp]
      have parse0 : ∀ {n : Nat}, (parseMethodDescriptor (me j).1.desc).map (fun d => d.parameters.length + 1) = some (n + 1) → (parseMethodDescriptor (me j).1.desc).map (fun d => d.parameters.length) = some n := by
        intro n h
        cases hp : parseMethodDescriptor (me j).1.desc with
        | none => rw [hp] at h; cases h
        | some sig =>
          rw [hp] at h
          have h9 : sig.parameters.length + 1 = n + 1 := Option.some.inj h
          exact congrArg some (Nat.succ.inj h9)
      unfold lnkC at hl
      split at hl
      · -- virtual
        cases hpu
        simp only [Bool.and_eq_true, decide_eq_true_eq, List.any_eq_true] at hl
        obtain ⟨⟨rfl, hj, hj99, hjn⟩, hnx, q, hq, hq1, hq2, hq3⟩ := hl
        have hw := gwAt_in (List.all_eq_true.mp lkM_ok q hq)
        rw [hq1, hq2, hq3] at hw
        obtain ⟨f1, f2, f3, f4, f5, f6, f7, f8, f9⟩ := mw_facts (hmo j hj).1
        obtain ⟨b, as, hL, hb8⟩ := rcv_ref (by rw [← hme]; exact hj99) hg3
        have f9 := f9.resolve_left hj99
        rw [← hme] at hb8
        rw [hL] at hct hpre hg1
        rw [if_neg hj99, hme, ← hg1] at f6
        have f6 : (parseMethodDescriptor (me j).1.desc).map (fun d => d.parameters.length) = some as.length := parse0 (by rw [hme]; exact f6)
        have hce := cell_o (X := X) (isC_iff hb8).2.2 f9.2
        refine go hnx (va_runV (b := adr X b) (As := as.map (vmp X)) (C := (me j).1.cls) (n := as.length) ⟨hx, hb, hml, hown, hts⟩ hct (cwV as.length hts (gw_all ?_) rfl rfl rfl ⟨rfl, f5.1, f5.2, f6⟩ (hroom hj)) ⟨PcJ_blind K X _ M, ?_, hpre.2⟩ rfl (by rw [List.length_map]) hlv.1 (argsplit b as hL) hW hd hf)
        · intro w hw9
          unfold wsV at hw9
          rcases List.mem_append.mp hw9 with hw9 | hw9
          · simp only [List.mem_cons, List.not_mem_nil, or_false] at hw9
            rcases hw9 with rfl | rfl | rfl | rfl
            · exact hw
            · exact (f3 hj99).1
            · exact (f3 hj99).2 hjn
            · exact f1
          · exact wsJ_gw (hmo j hj) w hw9
        · obtain ⟨cell, g1, g2, g3⟩ := va_recv (q0 := b - 8) hE.1 hH.2 (kl_at f9.2) (by rw [ws_at hb8, hce])
          exact ⟨cell, g1, g2, by rw [f8, ← f9.1, cnm_R f9.2]; exact g3⟩
      · cases hpu
        simp only [Bool.and_eq_true, decide_eq_true_eq, List.any_eq_true] at hl
        obtain ⟨⟨rfl, hj, hj99⟩, hnx, q, hq, hq1, hq2, hq3⟩ := hl
        have hw := gwAt_in (List.all_eq_true.mp lkM_ok q hq)
        rw [hq1, hq2, hq3] at hw
        obtain ⟨f1, f2, f3, f4, f5, f6, f7, f8, f9⟩ := mw_facts (hmo j hj).1
        rw [if_pos hj99] at f6
        have hlen : (((st.take (nar j)).reverse).map (vmp X)).length = (me j).2.2.2.2.1 := by rw [List.length_map, hg1, hme]
        refine go hnx (va_runS (As := ((st.take (nar j)).reverse).map (vmp X)) (n := (me j).2.2.2.2.1) ⟨hx, hb, hml, hown, hts⟩ hct (va_cwS (me j).2.2.2.2.1 hts (gw_all ?_) rfl rfl rfl ⟨f5.1, f5.2, f6⟩ (hroom hj)) hpre rfl hlen hlv.1 drop_take_st hW hd hf)
        intro w hw9
        unfold va_wsS at hw9
        rcases List.mem_append.mp hw9 with hw9 | hw9
        · simp only [List.mem_cons, List.not_mem_nil, or_false] at hw9
          rcases hw9 with rfl | rfl | rfl
          · exact hw
          · exact f2 hj99
          · exact f1
        · exact wsJ_gw (hmo j hj) w hw9
      · cases hpu
        simp only [Bool.and_eq_true, Bool.or_eq_true, decide_eq_true_eq, List.any_eq_true] at hl
        obtain ⟨⟨rfl, hj, hj99, hjn, hjr⟩, hnx, hq⟩ := hl
        obtain ⟨f1, f2, f3, f4, f5, f6, f7, f8, f9⟩ := mw_facts (hmo j hj).1
        obtain ⟨b, as, hL, hb8⟩ := rcv_ref (by rw [← hme]; exact hj99) hg3
        have hwj := wsJ_gw (hmo j hj)
        rw [hL] at hct hpre hg1
        rw [if_neg hj99, hme, ← hg1] at f6
        have f6 : (parseMethodDescriptor (me j).1.desc).map (fun d => d.parameters.length) = some as.length := parse0 (by rw [hme]; exact f6)
        have hnone : (me j).2.2.2.1 = none := by
          cases hz : (me j).2.2.2.1 with
          | none => rfl
          | some x => rw [hz] at hjr; cases hjr
        have hwe : wsJ j = .code (me j).1 (me j).2.1 (me j).2.2.1 none :: gw := by unfold wsJ; rw [hnone]
        rcases hq with ⟨q, hq, hq1, hq2, hq3⟩ | ⟨q, hq, hq1, hq2, hq3⟩
        · have hw := gwAt_in (List.all_eq_true.mp lkM_ok q hq)
          rw [hq1, hq2, hq3] at hw
          exact go hnx (va_runI (b := adr X b) (As := as.map (vmp X)) (n := as.length) ⟨hx, hb, hml, hown, hts⟩ hct (cwI as.length hts (gw_all hwj) hwe rfl rfl (hts _ f1) (hts _ hw) (hts _ (f3 hj99).1) hjn ⟨f5.1, f5.2, f6⟩ (hroom hj)) hpre rfl (by rw [List.length_map]) hlv.1 (argsplit b as hL) hW hd hf)
        · have hnw := hE.2.1 q hq
          rw [hq1, hq2, hq3] at hnw
          exact go hnx (va_runIN (b := adr X b) (As := as.map (vmp X)) (n := as.length) ⟨hx, hb, hml, hown, hts⟩ hct ⟨va_cnB as.length hts (gw_all hwj) hwe rfl rfl hnw (hts _ f1) ⟨f5.1, f5.2, f6⟩ (hroom hj), hjn, hts _ (f3 hj99).1⟩ hpre rfl (by rw [List.length_map]) hlv.1 (argsplit b as hL) hW hd hf)
      · cases hl
    · cases hpx
/-- the end of a run: a return, with what is answered on the stack -/
def rAt (cc : ByteArray) (pcr : Nat) (st : List Value) (r : Option Value) : Prop := ∃ re, decode cc pcr = .ok (re, 1) ∧ isRet re st = some r
set_option maxHeartbeats 2000000 in
/-- A WHOLE RUN of a body -/
theorem run_ok {K : Ka} {X : Wp} {oc nL f d : Nat} {ini : Bool} {pcs : List Nat} {code : List Instr} (hx : p.tables.exec = Jvm.exec) (hb : c.code = cc) (hml : c.maxLocals = nL) (hown : s.vm.findClass (cnm oc) = some m.cls) (hts : ∀ w ∈ gw, w.before args s = true) (hin : ini = true → meth.name = "<init>") (hE : Ev K X s) (hRf : d + 1 ≤ R.frames) (hRl : 60 * d + 60 ≤ R.locals) (hmo : ∀ j, j < 165 → mOk j)
    (hchk : chkL cc oc nL ini pcs 0 code = true) (hcall : ∀ j as M r M1, j < 165 → pex K f d j as M = some (r, M1) → Ct K X l d j as M r M1) {n0 s0 : Nat} {MF : Me} {r : Option Value} (hcN : mN MF ≤ n0 + R.cells) (hcS : mS MF ≤ s0 + R.slots)
    (hfin : ∀ (pcr : Nat) (H : Heap) (locs : List Loc) (cells slots : Nat) (ls : Array Slot) (st : List Value), rAt cc pcr st r → Hp X MF H → va_S (Ab X) s.heap H locs → cells + n0 = mN MF → slots + s0 = mS MF → W p l e R s m args below meth c H locs cells slots Q (F0 m pcr ls (st.map (vmp X)))) :
    ∀ (n k : Nat) (lv : Lv) (st : List Value) (M : Me), pgo K (pex K f d) code n k lv st M = some (r, MF) → ∀ (H : Heap) (locs : List Loc) (cells slots : Nat) (ls : Array Slot), lv_has ls nL (lvm X lv) → Hp X M H → va_S (Ab X) s.heap H locs → cells + n0 = mN M → slots + s0 = mS M → W p l e R s m args below meth c H locs cells slots Q (F0 m (pcs.getD k 0) ls (st.map (vmp X)))
  | 0, _, _, _, _, h => by cases h
  | n + 1, k, lv, st, M, h => by
    intro H locs cells slots ls hlv hH hS hc hs
    have hmono := pgo_mono (fun j as M r M1 h => pex_mono d j as M r M1 h) _ _ _ _ _ _ _ h
    rw [pgo] at h
    split at h
    · cases h
    · next pu hpu =>
      obtain ⟨re, ln, hd, hlnk⟩ := chkL_at code 0 k pu hchk hpu
      rw [Nat.zero_add] at hd hlnk
      split at h
      · next r9 hret =>
        cases h
        refine hfin _ H locs cells slots ls st ?_ hH hS hc hs
        rcases hlnk with q | q | q
        · unfold lnkR at q
          split at q
          · obtain rfl := of_decide_eq_true q; exact ⟨_, hd, hret⟩
          · obtain rfl := of_decide_eq_true q; exact ⟨_, hd, hret⟩
          · obtain rfl := of_decide_eq_true q; exact ⟨_, hd, hret⟩
          · cases q
        · exfalso
          unfold lnkC at q
          split at q
          · rw [isRet_no (by simp [isCall])] at hret; cases hret
          · rw [isRet_no (by simp [isCall])] at hret; cases hret
          · rw [isRet_no (by simp [isCall])] at hret; cases hret
          · cases q
        · exfalso
          unfold isRet at hret
          split at hret
          · unfold lnk at q; split at q <;> first | (cases q; done) | (simp_all; done)
          · unfold lnk at q; split at q <;> first | (cases q; done) | (simp_all; done)
          · unfold lnk at q; split at q <;> first | (cases q; done) | (simp_all; done)
          · cases hret
      · next hret =>
        split at h
        · next j hj =>
          split at h
          · next hn =>
            split at h
            · next r1 M1 hcl =>
              have hl : lnkC oc pcs k ln pu re = true := by
                rcases hlnk with q | q | q
                · exfalso
                  unfold isCall at hj
                  split at hj <;> first | (cases hj; done) | (unfold lnkR at q; split at q <;> first | (cases q; done) | (simp_all; done))
                · exact q
                · exfalso
                  unfold isCall at hj
                  split at hj <;> first | (cases hj; done) | (unfold lnk at q; split at q <;> first | (cases q; done) | (simp_all; done))
              have hj165 : j < 165 := by
                unfold lnkC at hl
                split at hl <;> first | (cases hl; done) | (cases hj; simp only [Bool.and_eq_true, decide_eq_true_eq] at hl; exact hl.1.2.1)
              have hm1 := pgo_mono (fun j as M r M1 h => pex_mono d j as M r M1 h) _ _ _ _ _ _ _ h
              exact call_ok hx hb hml hown hts hE hRf hRl hmo hj hd hl hn hcl (hcall _ _ _ _ _ hj165 hcl) (by omega) (by omega) hlv hH hS hc hs (fun H locs cells slots ls hlv hH hS hc hs => run_ok hx hb hml hown hts hin hE hRf hRl hmo hchk hcall hcN hcS hfin n (k + 1) lv _ M1 h H locs cells slots ls hlv hH hS hc hs)
            · cases h
          · cases h
        · next hj =>
          split at h
          · next k1 lv1 st1 M1 hst =>
            have hl : lnk oc nL ini pcs k ln pu re = true := by
              rcases hlnk with q | q | q
              · exfalso
                unfold lnkR at q
                split at q <;> first | (cases q; done) | (cases hst; done)
              · exfalso
                unfold lnkC at q
                split at q <;> first | (cases q; done) | (cases hj; done)
              · exact q
            have hm1 := pgo_mono (fun j as M r M1 h => pex_mono d j as M r M1 h) _ _ _ _ _ _ _ h
            have hm2 := pst_mono hst
            exact step_ok hx hb hml hown hts hin hE (by omega) (by omega) hd hl hst (by omega) (by omega) hlv hH hS hc hs (by omega) (by omega) (fun H locs cells slots ls hlv hH hS hc hs => run_ok hx hb hml hown hts hin hE hRf hRl hmo hchk hcall hcN hcS hfin n k1 lv1 st1 M1 h H locs cells slots ls hlv hH hS hc hs)
          · cases h
end Run
