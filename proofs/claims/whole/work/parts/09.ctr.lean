/-! the contract of every method, out of its pure run -/
theorem lgsl_m (X : Wp) (as : List Value) : (lg_sl (as.map (vmp X))).length = (lg_sl as).length := by
  unfold lg_sl
  induction as with
  | nil => rfl
  | cons a as ih =>
    rw [List.map_cons, List.flatMap_cons, List.flatMap_cons, List.length_append, List.length_append, ih, vmp_cat]
    congr 1
    by_cases h : a.category = 2
    · rw [if_pos h, if_pos h]; rfl
    · rw [if_neg h, if_neg h]; rfl
theorem lvargs_m (X : Wp) : ∀ (as : List Value) (i : Nat), lv_args i (as.map (vmp X)) = lvm X (lv_args i as)
  | [], _ => rfl
  | a :: as, i => by
    rw [List.map_cons, lv_args, lv_args, vmp_cat, lvargs_m X as]
    rfl
set_option maxHeartbeats 2000000 in
theorem ctr {K : Ka} {X : Wp} {l : Launch} {f : Nat} (hmo : ∀ j, j < 165 → mOk j) (hpc : ∀ j, j < 165 → (me j).2.2.2.2.2.2.2.2.getD 0 0 = 0) : ∀ (d j : Nat) (as : List Value) (M : Me) (r : Option Value) (M1 : Me), j < 165 → pex K f d j as M = some (r, M1) → Ct K X l d j as M r M1
  | 0, _, _, _, _, _, _, h => by cases h
  | d + 1, j, as, M, r, M1, hj, h => by
    have hmono := pex_mono _ _ _ _ _ _ h
    rw [pex] at h
    split at h
    · cases h
    · next e0 hmT =>
      have hme : me j = e0 := by unfold me; rw [List.getD_eq_getElem?_getD, hmT]; rfl
      rw [← hme] at h
      split at h
      · next hg =>
        obtain ⟨hg1, hg2, hg3⟩ := hg
        split at h
        · next r9 M9 hgo =>
          split at h
          · next hrok =>
            cases h
            obtain ⟨f1, f2, f3, f4, f5, f6, f7, f8, f9⟩ := mw_facts (hmo j hj).1
            refine Met.ofW (cc := (me j).2.1) (maxL := (me j).2.2.1) (ret := (me j).2.2.2.1) f4 rfl ?_
            intro p e s m args below meth c s₁ B hml hv
            obtain ⟨rfl, hE, hH⟩ := hv
            have hts : ∀ w ∈ gw, w.before (as.map (vmp X)).toArray s = true := fun w hw => atoms_spec (ws := wsJ j) B.pre w (List.mem_cons_of_mem _ hw)
            have hown : s.vm.findClass (cnm (me j).2.2.2.2.2.2.1) = some m.cls := by rw [← f8]; exact findClass_of_methodNamed B.named
            have hnm : meth.name = (me j).1.name := (name_of_methodNamed B.named B.method).1
            have hr := B.returns
            have hlocks := B.notSynchronized
            have hl := lv_entry (as.map (vmp X)) (n := (me j).2.2.1) (by rw [lgsl_m]; exact hg2)
            rw [lg_entry_eq]
            generalize (lg_sl (as.map (vmp X)) ++ List.replicate ((me j).2.2.1 - (lg_sl (as.map (vmp X))).length) Slot.unset).toArray = ls at hl ⊢
            rw [lvargs_m] at hl
            have go := run_ok (K := K) (X := X) (p := p) (l := l) (e := e) (R := (headSpec (wsJ j) (rmD (d + 1) (mN M1 - mN M) (mS M1 - mS M))).room) (s := s) (m := m) (args := (as.map (vmp X)).toArray) (below := below) (meth := meth) (c := c) (cc := (me j).2.1) (Q := MQ below (QcJ X r M1) (as.map (vmp X)).toArray s (mN M1 - mN M) (mS M1 - mS M) (Ab X)) (f := f) (d := d) (n0 := mN M) (s0 := mS M) (MF := M1) (r := r) (ini := decide ((me j).1.name = "<init>")) B.exec B.bytes hml hown hts (fun q => by rw [hnm]; exact of_decide_eq_true q) hE (Nat.le_refl _) (Nat.le_refl _) hmo (hmo j hj).2.1 (fun j as M r M1 hj h => ctr hmo hpc d j as M r M1 hj h) (by show mN M1 ≤ mN M + (mN M1 - mN M); omega) (by show mS M1 ≤ mS M + (mS M1 - mS M); omega) ?_ f 0 (lv_args 0 as) [] M hgo s.heap [] 0 0 ls hl hH va_S.rf (by omega) (by omega)
            · rw [hpc j hj] at go
              exact go
            · intro pcr H locs cells slots ls st hrt hH1 hS hc hs
              obtain rfl : cells = mN M1 - mN M := by omega
              obtain rfl : slots = mS M1 - mS M := by omega
              obtain ⟨re, hd, hre⟩ := hrt
              have hq : ∀ t : State, t.heap = H → s.WarmedH t.vm → QcJ X r M1 (as.map (vmp X)).toArray s (.returned (r.map (vmp X))) t := fun t ht _ => ⟨rfl, by rw [ht]; exact hH1, hS.F ht⟩
              unfold isRet at hre
              split at hre
              · cases hre
                unfold rok at hrok
                split at hrok
                · next e1 e2 => cases e2
                · next e1 e2 => exact W.zret B.exec B.bytes (hr.trans e1) rfl hq hS.2.2 hd hlocks
                · next e1 e2 =>
                  cases e2
                  refine W.zret B.exec B.bytes (hr.trans e1) ?_ hq hS.2.2 hd hlocks
                  simp only [Bool.or_eq_true, beq_iff_eq] at hrok
                  rcases hrok with rfl | rfl <;> rfl
                · next e1 e2 => cases e2
                · cases hrok
              · cases hre
                unfold rok at hrok
                split at hrok
                · next e1 e2 => cases e2
                · next e1 e2 => cases e2
                · next e1 e2 => cases e2
                · next e1 e2 => exact W.aret B.exec B.bytes (hr.trans e1) (Or.inr ⟨_, rfl⟩) (Or.inr ⟨_, rfl⟩) hq hS.2.2 hd hlocks
                · cases hrok
              · cases hre
                unfold rok at hrok
                split at hrok
                · next e1 e2 => exact W.vret B.exec B.bytes (hr.trans e1) hq hS.2.2 hd hlocks
                · next e1 e2 => cases e2
                · next e1 e2 => cases e2
                · next e1 e2 => cases e2
                · cases hrok
              · cases hre
          · cases h
        · cases h
      · cases h
