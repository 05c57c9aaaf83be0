/-! Math.floorMod, by its own walk (java/lang/Math is no plain class) -/
abbrev fmB : ByteArray := prog_9_method_50_code
def fmN : MethodName := ⟨"java/lang/Math", "floorMod", "(II)I"⟩
theorem fm_0 : decode fmB 0 = .ok (.iload_n 0, 1) := by decide +kernel
theorem fm_1 : decode fmB 1 = .ok (.iload_n 1, 1) := by decide +kernel
theorem fm_2 : decode fmB 2 = .ok (.irem, 1) := by decide +kernel
theorem fm_3 : decode fmB 3 = .ok (.istore_n 2, 1) := by decide +kernel
theorem fm_4 : decode fmB 4 = .ok (.iload_n 0, 1) := by decide +kernel
theorem fm_5 : decode fmB 5 = .ok (.iload_n 1, 1) := by decide +kernel
theorem fm_6 : decode fmB 6 = .ok (.ixor, 1) := by decide +kernel
theorem fm_7 : decode fmB 7 = .ok (.ifCond .ge 11, 3) := by decide +kernel
theorem fm_10 : decode fmB 10 = .ok (.iload_n 2, 1) := by decide +kernel
theorem fm_11 : decode fmB 11 = .ok (.ifCond .eq 7, 3) := by decide +kernel
theorem fm_14 : decode fmB 14 = .ok (.iload_n 2, 1) := by decide +kernel
theorem fm_15 : decode fmB 15 = .ok (.iload_n 1, 1) := by decide +kernel
theorem fm_16 : decode fmB 16 = .ok (.iadd, 1) := by decide +kernel
theorem fm_17 : decode fmB 17 = .ok (.ireturn, 1) := by decide +kernel
theorem fm_18 : decode fmB 18 = .ok (.iload_n 2, 1) := by decide +kernel
theorem fm_19 : decode fmB 19 = .ok (.ireturn, 1) := by decide +kernel
theorem fm_row0 : (NativeRow.find? natives fmN.cls fmN.name fmN.desc).isNone = true := by decide +kernel
theorem fm_row (p : Program) : NativeRow.find? p.tables.natives fmN.cls fmN.name fmN.desc = none := by
  cases p <;> exact Option.isNone_iff_eq_none.mp fm_row0
def fmR (x y : Int32) : Int32 := if (x ^^^ y) < 0 ∧ ¬ (x - x / y * y) = 0 then (x - x / y * y) + y else (x - x / y * y)
def fmS (x y : Int32) : Spec where
  pre := .and (.code fmN fmB 3 (some .int)) (.and (.count 2) (.and (.and (.isInt (.arg 0)) (.isInt (.arg 1))) (.and (.eq (.arg 0) (.int x)) (.eq (.arg 1) (.int y)))))
  post := .and .returned (.eq .result (.int (fmR x y)))
  changes := some []
set_option maxHeartbeats 4000000 in
theorem fm_meets (l : Launch) (x y : Int32) (hy : ¬ y = 0) : Meets l fmN (fmS x y) := by
  refine Meets.of_body_ov (code := fmB) (maxLocals := 3) (ret := some .int) fm_row ?_ ?_
  · intro args s h
    simp only [fmS, Cond.before_and, Bool.and_eq_true] at h
    exact h.1
  · intro p e s m args below meth c s₁ B
    have hpre := B.pre
    simp only [fmS, Cond.before_and, Bool.and_eq_true] at hpre
    obtain ⟨a, b, rfl⟩ := Cond.two_ints hpre.2.1 hpre.2.2.1.1 hpre.2.2.1.2
    have ha : a = x := by
      have := va_eqt hpre.2.2.2.1
      simpa [Term.eval] using this
    have hb : b = y := by
      have := va_eqt hpre.2.2.2.2
      simpa [Term.eval] using this
    subst ha
    subst hb
    have hloc : argsToLocals #[.int a, .int b] 3 = #[.val (.int a), .val (.int b), .unset] := rfl
    obtain ⟨fs, hfs⟩ := handOver_isSome (s := s₁) (some (.int (fmR a b))) B.hears₁
    refine ⟨s₁.setFrames fs, .returned (some (.int (fmR a b))), ?_, B.here.running, B.ended hfs (by intro h; cases h), ?_, State.sameBut_nil.mpr ?_⟩
    · unfold entryFrame; rw [hloc]
      refine Steps.instrAtOv (c := _) (by simpa using B.here) ?_
      simp [jvm, wpRun, exec, B.here.top, B.exec, B.bytes, fm_0]
      refine Steps.instrAtOv (c := _) (by simpa using B.here) ?_
      simp [jvm, wpRun, exec, B.here.top, B.exec, B.bytes, fm_1]
      refine Steps.instrAtOv (c := _) (by simpa using B.here) ?_
      simp [jvm, wpRun, exec, B.here.top, B.exec, B.bytes, fm_2, hy]
      refine Steps.instrAtOv (c := _) (by simpa using B.here) ?_
      simp [jvm, wpRun, exec, B.here.top, B.exec, B.bytes, fm_3, storeLocals, storeSelf, setAt]
      refine ⟨_, ⟨by simp [Value.category], rfl⟩, ?_⟩
      refine Steps.instrAtOv (c := _) (by simpa using B.here) ?_
      simp [jvm, wpRun, exec, B.here.top, B.exec, B.bytes, fm_4]
      refine Steps.instrAtOv (c := _) (by simpa using B.here) ?_
      simp [jvm, wpRun, exec, B.here.top, B.exec, B.bytes, fm_5]
      refine Steps.instrAtOv (c := _) (by simpa using B.here) ?_
      simp [jvm, wpRun, exec, B.here.top, B.exec, B.bytes, fm_6]
      by_cases h1 : 0 ≤ (a ^^^ b)
      · have hR : fmR a b = a - a / b * b := if_neg (fun q => absurd h1 (Int32.not_le.mpr q.1))
        rw [hR] at hfs
        refine Steps.instrAtOv (c := _) (by simpa using B.here) ?_
        simp [jvm, wpRun, exec, B.here.top, B.exec, B.bytes, fm_7, ifCond.holds, h1]
        refine Steps.instrAtOv (c := _) (by simpa using B.here) ?_
        simp [jvm, wpRun, exec, B.here.top, B.exec, B.bytes, fm_18]
        refine Steps.instrAtOv (c := _) (by simpa using B.here) ?_
        simp [jvm, wpRun, exec, B.here.top, B.exec, B.bytes, fm_19, B.method₁, B.returns, narrow]
        intro acts
        rw [ret_to B.frames₁ B.method₁ B.notSynchronized rfl rfl hfs]
        exact Steps.refl _
      · by_cases h2 : a - a / b * b = 0
        · have hR : fmR a b = a - a / b * b := if_neg (fun q => q.2 h2)
          rw [hR] at hfs
          refine Steps.instrAtOv (c := _) (by simpa using B.here) ?_
          simp [jvm, wpRun, exec, B.here.top, B.exec, B.bytes, fm_7, ifCond.holds, h1]
          refine Steps.instrAtOv (c := _) (by simpa using B.here) ?_
          simp [jvm, wpRun, exec, B.here.top, B.exec, B.bytes, fm_10]
          refine Steps.instrAtOv (c := _) (by simpa using B.here) ?_
          simp [jvm, wpRun, exec, B.here.top, B.exec, B.bytes, fm_11, ifCond.holds, h2]
          refine Steps.instrAtOv (c := _) (by simpa using B.here) ?_
          simp [jvm, wpRun, exec, B.here.top, B.exec, B.bytes, fm_18, h2]
          refine Steps.instrAtOv (c := _) (by simpa using B.here) ?_
          simp [jvm, wpRun, exec, B.here.top, B.exec, B.bytes, fm_19, B.method₁, B.returns, narrow, h2]
          rw [h2] at hfs
          intro acts
          rw [ret_to B.frames₁ B.method₁ B.notSynchronized rfl rfl hfs]
          exact Steps.refl _
        · have hR : fmR a b = a - a / b * b + b := if_pos ⟨Int32.not_le.mp h1, h2⟩
          rw [hR] at hfs
          refine Steps.instrAtOv (c := _) (by simpa using B.here) ?_
          simp [jvm, wpRun, exec, B.here.top, B.exec, B.bytes, fm_7, ifCond.holds, h1]
          refine Steps.instrAtOv (c := _) (by simpa using B.here) ?_
          simp [jvm, wpRun, exec, B.here.top, B.exec, B.bytes, fm_10]
          refine Steps.instrAtOv (c := _) (by simpa using B.here) ?_
          simp [jvm, wpRun, exec, B.here.top, B.exec, B.bytes, fm_11, ifCond.holds, h2]
          refine Steps.instrAtOv (c := _) (by simpa using B.here) ?_
          simp [jvm, wpRun, exec, B.here.top, B.exec, B.bytes, fm_14]
          refine Steps.instrAtOv (c := _) (by simpa using B.here) ?_
          simp [jvm, wpRun, exec, B.here.top, B.exec, B.bytes, fm_15]
          refine Steps.instrAtOv (c := _) (by simpa using B.here) ?_
          simp [jvm, wpRun, exec, B.here.top, B.exec, B.bytes, fm_16]
          refine Steps.instrAtOv (c := _) (by simpa using B.here) ?_
          simp [jvm, wpRun, exec, B.here.top, B.exec, B.bytes, fm_17, B.method₁, B.returns, narrow]
          intro acts
          rw [ret_to B.frames₁ B.method₁ B.notSynchronized rfl rfl hfs]
          exact Steps.refl _
    · simp [fmS, Cond.after, Cond.holds, Cond.value, Term.eval]
    · rw [State.frames_setFrames _ B.cur₁, B.back]
theorem fm_w : (decide (Cond.static fmN ∈ lw_tbl) && (decide (Cond.initialized "java/lang/Math" ∈ lw_tbl))) = true := by decide +kernel
set_option maxRecDepth 100000 in
theorem fm_c : lw_tbl[307]? = some (Cond.code fmN fmB 3 (some .int)) := rfl
theorem fm_gw : Cond.static fmN ∈ gw ∧ Cond.initialized "java/lang/Math" ∈ gw ∧ Cond.code fmN fmB 3 (some .int) ∈ gw := by
  have h := fm_w
  simp only [Bool.and_eq_true, decide_eq_true_eq] at h
  exact ⟨List.mem_filter.mpr ⟨h.1, rfl⟩, List.mem_filter.mpr ⟨h.2, rfl⟩, gw_of fm_c rfl⟩
section Fm
variable {p : Program} {l : Launch} {e : Env} {R : Room} {s : State} {m : MethodId} {args : Array Value} {below : List Frame} {meth : Method} {c : Code} {cells slots : Nat} {T : State} {locs : List Loc}
theorem fm_V (X : Stand p l e R s m args below meth c T locs cells slots) (hexec : p.tables.exec = Jvm.exec) {own : String} {index : Nat} (hown : s.vm.findClass own = some m.cls)
    (hlink : (Cond.methodLink own index fmN).before args s = true) (hstat : (Cond.static fmN).before args s = true) (hinit : (Cond.initialized "java/lang/Math").before args s = true)
    (hcode : (Cond.code fmN fmB 3 (some .int)).before args s = true)
    {g : JFrame} (hg : g.method = m) (hsize : g.locals.size = c.maxLocals) {a b : Int32} (hb : ¬ b = 0) {rest : List Value} (hstack : g.stack = .int b :: .int a :: rest) (hdg : decode c.code g.pc = .ok (.invokestatic index, 3))
    (hframes : 1 ≤ R.frames) (hlocals : 2 * g.monitorRoom + (rest.map fun v => v.category).sum + 14 ≤ R.locals) (hcells : cells ≤ R.cells) (hslots : slots ≤ R.slots) :
    ∃ vm', Stand p l e R s m args below meth c (T.setVm vm') locs cells slots ∧
      ∀ target, Steps p.tables e below ((T.setVm vm').setTop { g with pc := g.pc + 3, stack := .int (fmR a b) :: rest }) target → Steps p.tables e below (T.setTop g) target := by
  obtain ⟨v, T', X', ⟨first, t, hpost⟩, hstep⟩ := X.staticByContractV hexec hown hlink hstat hinit hcode (by decide)
    (Meets.loose_of_no_refs (fm_meets l a b hb) fun args' s' h => by
      simp only [fmS, Cond.before_and, Bool.and_eq_true] at h
      obtain ⟨x, y, rfl⟩ := Cond.two_ints h.2.1 h.2.2.1.1 h.2.2.1.2
      intro r hr; simp at hr)
    rfl rfl rfl rfl
    (fun args' first o s₂ h => by
      simp only [fmS, Cond.after_and, Bool.and_eq_true] at h
      cases o with
      | returned r => exact ⟨r, rfl⟩
      | threw y => simp [Cond.after, Cond.holds, Cond.value] at h)
    hg hsize (argsL := [.int a, .int b]) (rest := rest)
    (fun sig hs => by
      have h : parseMethodDescriptor "(II)I" = some { parameters := [.int, .int], returnType := some .int } := by decide +kernel
      rw [show fmN.desc = "(II)I" from rfl, h] at hs
      rw [← Option.some.inj hs]; rfl)
    hstack hdg
    (fun vm' hW => by
      simp only [fmS, Cond.before_and, Bool.and_eq_true]
      refine ⟨?_, rfl, ⟨rfl, rfl⟩, by simp [Cond.before, Cond.holds, Cond.value, Term.eval], by simp [Cond.before, Cond.holds, Cond.value, Term.eval]⟩
      have q := hcode
      rw [← Cond.code_setVm hW.alike] at q
      simp only [Cond.before, Cond.holds, Cond.value, State.methodNamed?, State.vm_setVm] at q ⊢
      exact q)
    (by show 0 + 1 ≤ R.frames; omega) (by show 2 * g.monitorRoom + (rest.map fun v => v.category).sum + (3 + 11) + 0 ≤ R.locals; omega) (by show cells + 0 ≤ R.cells; omega) (by show slots + 0 ≤ R.slots; omega)
  refine ⟨T', X', fun target h => hstep target ?_⟩
  obtain rfl : v = some (.int (fmR a b)) := by
    rcases v with _ | w
    · simp [fmS, Cond.after, Cond.holds, Cond.value, Term.eval] at hpost
    · cases w <;> simp [fmS, Cond.after, Cond.holds, Cond.value, Term.eval] at hpost
      simp [hpost]
  exact h
end Fm
