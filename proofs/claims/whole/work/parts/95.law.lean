/-! THE CLAIM OUT OF ONE WALK OF THE LAW'S BODY. Your part is whole_start (and what it stands on); all else here is the same for every law, but numbers. -/
def R_law : String := "CompassTowersLaw"
def lw_P (b : Addr) (xs : List Int32) (args : Array Value) (s : State) : Prop := args = #[.ref b] ∧ s.IntsAt b xs ∧ xs.length ≤ 2560 ∧ (Jvm.Cond.and given_1 narrow_1).before args s = true
def lw_Q (_ : Array Value) (s : State) (o : Outcome) (t : State) : Prop := o = .returned (some (.int 1)) ∧ Framed s o t [] 600000 7302249
def lw_Z (below : List Frame) (a : Array Value) (s : State) : State → Prop := fun t => ∃ o, t.status = .running ∧ Ended t below o ∧ lw_Q a s o t
/-- the law's own end, with 1 on the stack, nothing written that was there before, its room as the claim has it -/
theorem lw_ret {p : Program} {l : Launch} {e : Env} {s : State} {m : MethodId} {below : List Frame} {meth : Method} {c : Code} {b : Nat} (hx : p.tables.exec = Jvm.exec) (hb : c.code = code) (hr : meth.sig.returnType = ret) (hlocks : meth.locks = false) {pc : Nat} {H : Heap} {ls : Array Slot} (hdg : decode code pc = .ok (.ireturn, 1)) : W p l e room_1 s m #[Value.ref b] below meth c H [] 600000 7302249 (lw_Z below #[Value.ref b] s) (F0 m pc ls [.int 1]) := by
  intro T hT X
  obtain ⟨fs, hret, hrun, hended, hW, hframe⟩ := X.leave (v := some (.int 1)) (hlocks := hlocks) (fun h => by rw [hr] at h; cases h)
  have hmeth' : T.vm.method? m = some meth := X.method'
  refine ⟨T.setFrames fs, ?_, .returned (some (.int 1)), hrun, hended, rfl, ⟨_, rfl⟩, hW, hframe⟩
  jvm_step X.here [X.here.top, hx, hb, hdg, hmeth', hr, ret, narrow_b1]
  (try refine ⟨rfl, ?_⟩); (try refine ⟨rfl, ?_⟩)
  first | (intro acts; rw [hret _ acts rfl rfl rfl]) | rw [hret _ _ rfl rfl rfl]
  exact Steps.refl _
/-- what holds at the law's entry: the machine, the code, the tables' words (any of lw_tbl by 'hts w (by decide +kernel)'), the script of L ints xs at the cell b, what the Statement gives of the start (any of its parts by flat_of_before) -/
def lw_At (p : Program) (s : State) (m : MethodId) (meth : Method) (c : Code) (b L : Nat) (xs : Nat → Int32) : Prop :=
  p.tables.exec = Jvm.exec ∧ c.code = code ∧ meth.sig.returnType = ret ∧ c.maxLocals = 4 ∧ s.vm.findClass R_law = some m.cls ∧ (∀ w ∈ lw_tbl, w.before #[Value.ref b] s = true) ∧ va_X b L xs s s.heap ∧ b < s.heap.size ∧ meth.locks = false ∧ (Jvm.Cond.and given_1 narrow_1).before #[Value.ref b] s = true
theorem st_elems : (List.range 4).all (fun j => decide (Cond.arrayOf (.static (stC j) (stN j) "[I") .int ∈ flatC (Jvm.Cond.and given_1 narrow_1)) && (decide (Cond.eq (.length (.static (stC j) (stN j) "[I")) (.int (Int32.ofNat (kst.getD j []).length)) ∈ flatC (Jvm.Cond.and given_1 narrow_1)) && ((List.range (kst.getD j []).length).all (fun i => decide (Cond.eq (.elem (.static (stC j) (stN j) "[I") (.int (Int32.ofNat i))) (.int ((kst.getD j []).getD i 0)) ∈ flatC (Jvm.Cond.and given_1 narrow_1))) && (decide (Cond.laysStatic (stC j) (stN j) "[I" ∈ lw_tbl) && decide (Cond.initialized (stC j) ∈ lw_tbl))))) = true := by decide +kernel
theorem law_w : (decide (Cond.arrayOver (.array .int) ∈ lw_tbl) && decide (Cond.arrayClass .int ∈ lw_tbl ∧ Cond.arrayClass .long ∈ lw_tbl ∧ Cond.arrayClass .boolean ∈ lw_tbl)) = true := by decide +kernel
set_option maxHeartbeats 4000000 in
set_option maxRecDepth 100000 in
theorem whole_start {p : Program} {e : Env} {s : State} {m : MethodId} {below : List Frame} {meth : Method} {c : Code} (l : Launch) {b L : Nat} {xs : Nat → Int32} (hL : L ≤ 2560) (C0 : lw_At p s m meth c b L xs) : W p l e room_1 s m #[Value.ref b] below meth c s.heap [] 0 0 (lw_Z below #[Value.ref b] s) (entryFrame m ([Value.ref b] : List Value).toArray 4) := by
  obtain ⟨hx, hb, hr, hml, hown, hts, hX, hbl, hlocks, hgv⟩ := id C0
  have hgw : ∀ w ∈ gw, w.before #[Value.ref b] s = true := fun w h => hts w (gw_in h)
  have hfl := flat_of_before _ hgv
  -- classes
  have hkn : ∀ ci : Nat, ∃ (cC : ClassId) (iS : Nat → Nat), ci < 6 → u_Kn s (RXf ci) (TXf ci) (nf ci) cC iS := by
    intro ci
    by_cases h : ci < 6
    · obtain ⟨cC, iS, hk⟩ := u_known (C := RXf ci) (T := TXf ci) (N := nf ci) (n := nf ci) hgw (lay_f h) (hgw _ (lay_i h).1)
      exact ⟨cC, iS, fun _ => hk⟩
    · exact ⟨0, fun _ => 0, fun q => absurd q h⟩
  obtain ⟨dC, hkn⟩ := Classical.axiomOfChoice hkn
  obtain ⟨dI, hkn⟩ := Classical.axiomOfChoice hkn
  have hlw := law_w
  simp only [Bool.and_eq_true, decide_eq_true_eq] at hlw
  obtain ⟨cI, kI, cmI, fI, hkI, hkdI⟩ := Cond.arrayClass_spec (hts _ hlw.2.1)
  obtain ⟨cJ, kJ, cmJ, fJ, hkJ, hkdJ⟩ := Cond.arrayClass_spec (hts _ hlw.2.2.1)
  obtain ⟨cZ, kZ, cmZ, fZ, hkZ, hkdZ⟩ := Cond.arrayClass_spec (hts _ hlw.2.2.2)
  have hov : va_Nw (.arrayOver (.array .int)) s := hts _ hlw.1
  obtain ⟨cmG, cG, kG, -, -, hkG, hkdG, fG⟩ := aov_spec hov
  have hAb : ∀ a : Nat, a < s.heap.size → ¬ (fun q : Nat => s.heap.size ≤ q) a := fun a h q => absurd h (Nat.not_lt.mpr q)
  -- static arrays
  have hst : ∀ j : Nat, ∃ t : Nat, j < 4 → va_T .int t (Kx L xs j).1 (fun i => .int ((Kx L xs j).2 i)) (fun q : Nat => s.heap.size ≤ q) s s.heap ∧ va_Z (stC j) (stN j) "[I" (.ref t) (fun q : Nat => s.heap.size ≤ q) s s.heap := by
    intro j
    by_cases h : j < 4
    · have hw := List.all_eq_true.mp st_elems j (List.mem_range.mpr h)
      simp only [Bool.and_eq_true, decide_eq_true_eq] at hw
      obtain ⟨w1, w2, w3, w4, w5⟩ := hw
      have hK : Kx L xs j = ((kst.getD j []).length, fun i => (kst.getD j []).getD i 0) := if_neg (by omega)
      have hn : (kst.getD j []).length < 2 ^ 31 := by
        rcases (show j = 0 ∨ j = 1 ∨ j = 2 ∨ j = 3 by omega) with rfl | rfl | rfl | rfl <;> decide
      obtain ⟨t, ht, hT⟩ := va_Tof (A := fun q : Nat => s.heap.size ≤ q) (tm := .static (stC j) (stN j) "[I") (ty := .int) (f := fun i => .int ((kst.getD j []).getD i 0)) hn (hfl _ w1) (va_eqt (hfl _ w2)) (fun i hi => va_eqt (hfl _ (of_decide_eq_true (List.all_eq_true.mp w3 i (List.mem_range.mpr hi))))) hAb
      refine ⟨t, fun _ => ⟨?_, va_Zof (hts _ w4) (hts _ w5) ht hAb⟩⟩
      rw [hK]
      exact hT
    · exact ⟨0, fun q => absurd q h⟩
  obtain ⟨ca0, hst⟩ := Classical.axiomOfChoice hst
  obtain ⟨X, hXd⟩ : ∃ X : Wp, X = ((dC, dI), (cI, cJ, cZ, cG), s.heap.size, fun j => if j = 4 then b else ca0 j) := ⟨_, rfl⟩
  have hE : Ev (Kx L xs) X s := by
    subst hXd
    refine ⟨⟨?_, ?_⟩, ?_, hov, ?_, ?_, Nat.le_refl _⟩
    · intro ci q hq
      by_cases h : ci < 6
      · rw [kl_at h] at hq
        cases hq
        exact hkn ci h
      · have h9 : kl[ci]? = none := List.getElem?_eq_none (by show 6 ≤ ci; omega)
        rw [h9] at hq
        cases hq
    · intro k q hq
      match k, hq with
      | 0, hq => cases hq; exact ⟨fun n z => ⟨fun k h => (by cases h), kI, hkI, cmI, hkdI⟩, fI⟩
      | 1, hq => cases hq; exact ⟨fun n z => ⟨fun k h => (by cases h), kJ, hkJ, cmJ, hkdJ⟩, fJ⟩
      | 2, hq => cases hq; exact ⟨fun n z => ⟨fun k h => (by cases h), kZ, hkZ, cmZ, hkdZ⟩, fZ⟩
      | 3, hq => cases hq; exact ⟨fun n z => ⟨fun k h => (by cases h), kG, hkG, cmG, hkdG⟩, fG⟩
      | k + 4, hq => cases hq
    · intro q hq
      have h9 := of_decide_eq_true (List.all_eq_true.mp lkN_ok q hq)
      exact va_Nw.of rfl (hts _ (List.mem_of_getElem? h9))
    · intro j hj
      by_cases h4 : j = 4
      · subst h4
        obtain ⟨scr, g1, g2, g3, g4, g5⟩ := hX
        refine ⟨scr, g1, g2, g3, ?_, ?_, ?_, hAb b hbl⟩
        · show L ≤ scr.slots.size
          omega
        · show scr.slots.size.toInt32 = Int32.ofNat L
          rw [g4]
        · exact g5
      · have h9 := (hst j (by omega)).1
        show va_T .int (if j = 4 then b else ca0 j) _ _ _ _ _
        rw [if_neg h4]
        exact h9
    · intro j hj
      have h9 := (hst j hj).2
      show va_Z _ _ _ (.ref (if j = 4 then b else ca0 j)) _ _ _
      rw [if_neg (by omega)]
      exact h9
  have hX4 : adr X 4 = b := by subst hXd; rfl
  have hbs : X.2.2.1 = s.heap.size := by subst hXd; rfl
  have hAbX : Ab X = fun q : Nat => s.heap.size ≤ q := by unfold Ab; rw [hbs]
  obtain ⟨f, d, MF, hrun, hcN, hcS, hd⟩ := pure_ok L xs hL
  have hl := lv_entry ([.ref b]) (n := 4) (Nat.le_of_ble_eq_true rfl)
  rw [lg_entry_eq]
  generalize (lg_sl ([.ref b]) ++ List.replicate (4 - (lg_sl ([.ref b])).length) Slot.unset).toArray = ls at hl ⊢
  have hl : lv_has ls 4 (lvm X [(0, .ref 4)]) := by
    show lv_has ls 4 [(0, .ref (adr X 4))]
    rw [hX4]
    exact hl
  have hH : Hp X M0 s.heap := ⟨by rw [hbs]; rfl, fun k q hq => by have h9 : ([] : va_W)[k]? = some q := hq; cases h9⟩
  refine run_ok (K := Kx L xs) (X := X) (cc := code) (oc := 8) (nL := 4) (ini := false) (pcs := mp_168) (code := mc_168) (f := f) (d := d) (n0 := 0) (s0 := 0) (MF := MF) (r := some (.int 1)) hx hb hml hown hgw (fun q => by cases q) hE (by show d + 1 ≤ 2048; omega) (by show 60 * d + 60 ≤ 84000; omega) hmo_all ck_168 (fun j as M r M1 hj h => ctr hmo_all pc0_all d j as M r M1 hj h) (by show mN MF ≤ 0 + 600000; omega) (by show mS MF ≤ 0 + 7302249; omega) ?_ f 0 [(0, .ref 4)] [] M0 hrun s.heap [] 0 0 ls hl hH va_S.rf rfl rfl
  intro pcr H locs cells slots ls st hrt hH1 hS hc hs
  obtain ⟨re, hd, hre⟩ := hrt
  refine va_forget (fun q hq => ?_) (W.widen (k := 600000) (n := 7302249) (by omega) (by omega) ?_)
  · have h9 := hS.2.2 q hq
    rw [hAbX] at h9
    exact h9
  · unfold isRet at hre
    split at hre
    · cases hre
      exact lw_ret hx hb hr hlocks hd
    · cases hre
    · cases hre
    · cases hre
set_option maxHeartbeats 4000000 in
theorem lw_walk (l : Launch) (b : Addr) (xs : List Int32) : MetFree l x (headSpec (Jvm.Cond.code x code maxLocals ret :: tables_1) room_1) (lw_P b xs) (fun _ _ _ _ _ => True) lw_Q := by
  refine MetFree.of_bodyS (code := code) (maxLocals := maxLocals) (ret := ret) (by decide) ?_ ?_
  · intro args s m h hn
    obtain ⟨meth, c, h1, h2, h3, h4, h5, h6, -, -⟩ := Cond.code_spec hn (atoms_spec (ws := Jvm.Cond.code x code maxLocals ret :: tables_1) h _ List.mem_cons_self)
    exact ⟨meth, c, h1, h2, h3, h4, h5, h6⟩
  · intro p e s m args below meth c s₁ B hml0 hP _
    obtain ⟨rfl, hx, hbd, hgv⟩ := hP
    obtain ⟨scr, harrAt, hlist, hof, hsmall⟩ := hx
    obtain ⟨hcb, hkn, -, -⟩ := State.arrayAt?_spec harrAt
    have hown : s.vm.findClass R_law = some m.cls := findClass_of_methodNamed B.named
    have hts0 : ∀ c ∈ (Jvm.Cond.code x code maxLocals ret :: tables_1), c.before #[Value.ref b] s = true := atoms_spec (ws := Jvm.Cond.code x code maxLocals ret :: tables_1) B.pre
    have hts : ∀ w ∈ lw_tbl, w.before #[Value.ref b] s = true := k2_hts_sels lw_privs (fun w hw => hts0 w (List.mem_cons_of_mem _ hw)) lw_privs_ok
    have hml : c.maxLocals = 4 := B.maxLocals_eq (hts0 _ List.mem_cons_self)
    have X₀ : Stand p l e room_1 s m #[Value.ref b] below meth c s₁ [] 0 0 := Stand.of_body B
    have hh0 : s₁.heap = s.heap := by rw [B.state]; rfl
    have hsz : scr.slots.size = xs.length := by rw [← Array.length_toList, hlist, List.length_map]
    have hval : ∀ j : Nat, j < xs.length → scr.slots[j]? = some (.int (xs.getD j 0)) := fun j hj => by
      rw [← Array.getElem?_toList, hlist]
      simp [hj]
    have hbl : b < s.heap.size := (Array.getElem?_eq_some_iff.mp hcb).1
    have hX : va_X b xs.length (fun j => xs.getD j 0) s s.heap := ⟨scr, hcb, hof, hkn, hsz, hval⟩
    have K : W p l e room_1 s m #[Value.ref b] below meth c s₁.heap [] 0 0 (lw_Z below #[Value.ref b] s) (entryFrame m ([Value.ref b] : List Value).toArray 4) := by
      rw [hh0]
      exact whole_start l hbd ⟨B.exec, B.bytes, B.returns, hml, hown, hts, hX, hbl, B.notSynchronized, hgv⟩
    obtain ⟨t, a1, o, b1, b2, b3⟩ := K s₁ rfl X₀
    exact ⟨t, o, a1, b1, b2, b3⟩
theorem lw_pre_spec {args : Array Value} {s : State} (h : (Jvm.Cond.and given_1 narrow_1).before args s = true) (hr : rest_1_c.before args s = true) : ∃ (b : Addr) (xs : List Int32), lw_P b xs args s := by
  have hs := flat_of_before _ h
  have hq := flat_of_before _ hr
  have hc : (Cond.count 1).before args s = true := hs _ (by decide +kernel)
  have harr : (Cond.arrayOf (.arg 0) .int).before args s = true := hs _ (by decide +kernel)
  have hle : (Cond.le (.length (.arg 0)) (.int 2560)).before args s = true := hs _ (by decide +kernel)
  have hlen : (Cond.isInt (.length (.arg 0))).before args s = true := hq _ (by decide +kernel)
  have hall : (Cond.all (.arg 0) (.isInt (.elem (.arg 0) (.index 0)))).before args s = true := hq _ (by decide +kernel)
  obtain ⟨b, xs, hb, hx⟩ := State.ints_of_pre rfl harr hlen hall
  have hsm : xs.length < 2 ^ 31 := hx.choose_spec.2.2.2
  have hev : (Term.length (.arg 0)).eval args s none [] s = some (.int xs.length.toInt32) := hx.length_eval hb
  have hv := Cond.le_ints hev (show (Term.int 2560).eval args s none [] s = some (.int 2560) from rfl)
  have hd : xs.length.toInt32 ≤ 2560 := by
    simpa [Cond.before, Cond.holds, hv] using hle
  have hN : xs.length ≤ 2560 := (Int32.ofNat_le_ofNat hsm (by decide)).mp (show Int32.ofNat xs.length ≤ Int32.ofNat 2560 from hd)
  exact ⟨b, xs, Cond.one_arg hc (show args[0]? = some (.ref b) from hb), hx, hN, h⟩
theorem lw_comes (l : Launch) : Comes l x (Jvm.Cond.code x code maxLocals ret :: tables_1) room_1 (fun tb e args s => Calls_1 tb e args s ∧ rest_1 tb e args s ∧ Pre_1 tb e args s)
    (fun _ _ args s o t => lw_Q args s o t) := by
  intro p e ha hc hk s m args below hf hfit hheap happ hpre
  obtain ⟨b, xs, hP⟩ := lw_pre_spec hpre.2.2 hpre.2.1
  obtain ⟨k, o, h1, h2, h3, hQ⟩ := lw_walk l b xs p e ha hc hk s m args below hf ((Spec.applies_iff_loose hf).mp happ).1 hP trivial
  exact ⟨k, o, h1, h2, h3, hQ⟩
theorem lw_frame {s t : State} {o : Outcome} {args : Array Value} (h : Framed s o t [] 600000 7302249) :
    Framed s o t (fieldLocs frame_1_writes args s ++ arrayLocs frame_1_arrays args s ++ staticLocs frame_1_statics s) 600000 7302249 := h
theorem lw_limb (L : Cond) (hL : ∀ (args : Array Value) (s t : State), L.after args s (.returned (some (.int 1))) t = true) :
    ArmFor flags0 classFile x code maxLocals ret World_1 tables_1 room_1 Calls_1 rest_1 Pre_1
      (fun tb e a s o t => postC L tb e a s o t ∧ Framed s o t (fieldLocs frame_1_writes a s ++ arrayLocs frame_1_arrays a s ++ staticLocs frame_1_statics s) 600000 7302249) := by
  intro l _ _ _ p e ha hc hk s m args below hf hfit hheap happ hpre
  obtain ⟨k, o, h1, h2, h3, rfl, hF⟩ := lw_comes l p e ha hc hk s m args below hf hfit hheap happ hpre
  exact ⟨k, _, h1, h2, h3, hL args s _, lw_frame hF⟩
theorem i_vc : Claimed_1_1 ∧ Claimed_1_2 := ⟨lw_limb limb_1_1 (fun args s t => by simp [limb_1_1, Cond.after, Cond.holds, Cond.value]), lw_limb limb_1_2 (fun args s t => Cond.after_iff.mpr (by
  first | (rw [show limb_1_2 = Cond.eq .result (.int 1) from rfl, Cond.eq_ints (x := 1) (y := 1) rfl rfl]; simp; done) | (simp [limb_1_2, Cond.value, Term.eval]; done)))⟩
