/-! led's throw: the class's constructor links to its super's at 13, not at 7, so the printed row for throwing does not fit it -/
abbrev nse : String := "java/util/NoSuchElementException"
abbrev rte : String := "java/lang/RuntimeException"
def by13 : ByteArray := ⟨#[0x2a, 0x2b, 0xb7, 0x00, 0x0d, 0xb1]⟩
theorem by13_0 : decode by13 0 = .ok (.aload_n 0, 1) := by decide +kernel
theorem by13_1 : decode by13 1 = .ok (.aload_n 1, 1) := by decide +kernel
theorem by13_2 : decode by13 2 = .ok (.invokespecial 13, 3) := by decide +kernel
theorem by13_5 : decode by13 5 = .ok (.return_, 1) := by decide +kernel
def ledA (own : String) (ic : Nat) : List Cond :=
  Bundle.throwableAtoms ++ Bundle.throwableSAtoms ++ Bundle.passSAtoms nse rte 13 by13 ++ Bundle.chainSAtoms rte ["java/lang/Exception"] ++
  [.methodLink own ic (Bundle.initS nse), .instantiable nse 6, .castable nse nse, .selects nse Bundle.tFill0 Bundle.tFill0, .selects nse Bundle.tFill Bundle.tFill,
   .lays nse Bundle.tN "cause" "Ljava/lang/Throwable;", .lays nse Bundle.tN "stackTrace" Bundle.steD, .lays nse Bundle.tN "suppressedExceptions" Bundle.listD, .lays nse Bundle.tN "detailMessage" "Ljava/lang/String;",
   .isRef (.static Bundle.tN "UNASSIGNED_STACK" Bundle.steD), .isRef (.static Bundle.tN "SUPPRESSED_SENTINEL" Bundle.listD),
   .fieldLink Bundle.tN 198 Bundle.tN "backtrace" "Ljava/lang/Object;", .lays Bundle.tN Bundle.tN "backtrace" "Ljava/lang/Object;", .lays nse Bundle.tN "backtrace" "Ljava/lang/Object;"]
section LT
variable {p : Program} {l : Launch} {e : Env} {R : Room} {s : State} {m₀ : MethodId} {args : Array Value} {below : List Frame} {meth : Method} {c : Code} {T0 : State} {cells slots : Nat}
set_option maxHeartbeats 1000000 in
theorem ledCtor (X : Stand p l e R s m₀ args below meth c T0 [] cells slots) (hexec : p.tables.exec = Jvm.exec) (htr : e.platform.stackTraces = false) {own : String} {ic : Nat}
    (hown : s.vm.findClass own = some m₀.cls) (h : ∀ w ∈ ledA own ic, w.before args s = true)
    {a : Addr} {cX : ClassId} {kX : Class} (hfX : s.vm.findClass nse = some cX) (hkX : s.vm.classes[cX]? = some kX) (hcell : T0.heap[a]? = some (freshCell cX kX)) (hnew : s.heap.size ≤ a)
    {msg : Value} (hmsg : msg.isRef = true) {g : JFrame} (hg : g.method = m₀) (hsize : g.locals.size = c.maxLocals) (hlk : g.locked = none) (hent : g.entered = []) {rest : List Value} (hst : g.stack = msg :: .ref a :: .ref a :: rest)
    (d0 : decode c.code g.pc = .ok (.invokespecial ic, 3)) (d3 : decode c.code (g.pc + 3) = .ok (.athrow, 1)) (hout : ∀ x ∈ c.exceptionTable.toList, covers x (g.pc + 3) = false)
    (hRf : 5 < R.frames) (hRl : 2 * g.monitorRoom + ((Value.ref a :: rest).map fun v => v.category).sum + 81 ≤ R.locals) (hlocks : meth.locks = false) :
    ∃ U : State, Steps p.tables e below (T0.setTop g) U ∧ U.status = .running ∧ Ended U below (.threw a) ∧ s.WarmedH U.vm ∧ s.sameButNew ({ U with vm := s.vm } : State) [] cells slots ∧
      ∃ ce, U.heap[a]? = some ce ∧ ce.vm = .none ∧ s.vm.findClass nse = some ce.cls := by
  have hpl : e.platform.magicAccessors = ({} : Platform).magicAccessors := by rw [X.admits.platform]
  have inA : ∀ w, w ∈ ledA own ic → w.holds args s none s [] = true := fun w hw => h w hw
  obtain ⟨T, Z0, L, -, Y⟩ := ThrowableC.of_atoms (args := args) (by rw [X.admits.platform]) (by rw [X.admits.platform]) hpl (fun x hx => h x (by simp [ledA, hx]))
  obtain ⟨Z, M, LZ, LM, hnZ⟩ := Init0T.ofS_atoms (args := args) hpl L Y (fun x hx => h x (by simp [ledA, hx]))
  obtain ⟨P2, Ps, hlen, L2, hL, hP2, hk2, hk3⟩ := Bundle.chainS (args := args) hpl hnZ ["java/lang/Exception"] rte (by decide +kernel) (fun n hn => by rw [List.mem_singleton.mp hn]; decide +kernel) (fun x hx => h x (by simp [ledA, hx]))
  obtain ⟨P1, L1, hP1, hs1⟩ := PassC.ofS_atoms (args := args) (s := s) hpl (X := nse) (Y := rte) (by decide +kernel) (by decide) by13_0 by13_1 by13_2 by13_5 (fun x hx => h x (by simp [ledA, hx]))
  have hk1 : P1.sup = P2.m := Option.some.inj (hs1.symm.trans hP2)
  have hfd : s.vm.findClass nse = some P1.m.cls := findClass_of_methodNamed hP1
  cases Option.some.inj (hfX.symm.trans hfd)
  obtain ⟨c1, k1, hc1, hk, hord, -, -, -⟩ := Cond.instantiable_spec (inA (.instantiable nse 6) (by simp [ledA]))
  cases Option.some.inj (hc1.symm.trans hfd)
  cases Option.some.inj (hkX.symm.trans hk)
  have pick : ∀ (y : MethodName) (r : MethodId), (Cond.selects nse y y).before args s = true → s.methodFound? y.cls y.name y.desc = some r → s.methodNamed? y = some r → selectMethod e.platform s.vm P1.m.cls r = .method r := fun y r hs hf hn => by
    obtain ⟨c2, r2, m2, q1, q2, q3, q4, -⟩ := Cond.selects_spec hs
    cases Option.some.inj (q1.symm.trans hfd)
    cases Option.some.inj (q2.symm.trans hf)
    cases Option.some.inj (q3.symm.trans hn)
    rw [Launch.admits_selectMethod X.admits]; exact q4
  have hsel0 := pick _ _ (inA (.selects nse Bundle.tFill0 Bundle.tFill0) (by simp [ledA])) (State.methodFound?_of_named Y.fill0 (by decide)) Y.fill0
  have hselF := pick _ _ (inA (.selects nse Bundle.tFill Bundle.tFill) (by simp [ledA])) (State.methodFound?_of_named Y.fill (by decide)) Y.fill
  obtain ⟨cS, hcS, hiss⟩ := Y.statics
  obtain ⟨u0, hu0⟩ := Cond.staticRefV Y.unassigned L.unassignedStatic L.statics hcS hiss (inA (.isRef (.static Bundle.tN "UNASSIGNED_STACK" Bundle.steD)) (by simp [ledA]))
  obtain ⟨sen, hsen⟩ := Cond.staticRefV Y.sentinel L.sentinelStatic L.statics hcS hiss (inA (.isRef (.static Bundle.tN "SUPPRESSED_SENTINEL" Bundle.listD)) (by simp [ledA]))
  obtain ⟨ciB, iB, fB, b1, b2, b3, b4, -, hnB, htB, hffB⟩ := Cond.ownField (t := .object "java/lang/Object") Y.found L.cls (by decide +kernel) (inA (.fieldLink Bundle.tN 198 Bundle.tN "backtrace" "Ljava/lang/Object;") (by simp [ledA])) (inA (.lays Bundle.tN Bundle.tN "backtrace" "Ljava/lang/Object;") (by simp [ledA])) e.platform hpl
  obtain ⟨cW, hcW, heW, -, hkeep⟩ := X.same.2.2.2.2.2 T.aS cS hcS
  have hcW : T0.heap[T.aS]? = some cW := hcW
  have hkn : cW.vm ≠ .unknown := fun hu => by
    rw [heW] at hu
    rw [show cS.vm = .unknown from hu] at hiss
    cases hiss
  have hne : T.aS ≠ a := fun q => absurd (Array.getElem?_eq_some_iff.mp hcS).1 (by rw [q]; exact Nat.not_lt.mpr hnew)
  obtain ⟨iM, hffM⟩ := Y.msg
  obtain ⟨tyC, dC, eC, nC⟩ := Cond.laysAt hfd hk Y.cause (inA (.lays nse Bundle.tN "cause" "Ljava/lang/Throwable;") (by simp [ledA]))
  obtain ⟨tyS, dS, eS, nS⟩ := Cond.laysAt hfd hk Y.stack (inA (.lays nse Bundle.tN "stackTrace" Bundle.steD) (by simp [ledA]))
  obtain ⟨tyP, dP, eP, nP⟩ := Cond.laysAt hfd hk Y.supp (inA (.lays nse Bundle.tN "suppressedExceptions" Bundle.listD) (by simp [ledA]))
  obtain ⟨tyM, dM, eM, nM⟩ := Cond.laysAt hfd hk hffM (inA (.lays nse Bundle.tN "detailMessage" "Ljava/lang/String;") (by simp [ledA]))
  obtain ⟨tyB, dB, eB, nB⟩ := Cond.laysAt hfd hk hffB (inA (.lays nse Bundle.tN "backtrace" "Ljava/lang/Object;") (by simp [ledA]))
  have aC := Cond.laysApart eB eC nB nC (by rw [hnB, Y.causeName]; decide)
  have aS := Cond.laysApart eB eS nB nS (by rw [hnB, Y.stackName]; decide)
  have aP := Cond.laysApart eB eP nB nP (by rw [hnB, Y.suppName]; decide)
  have hskip : SkipFacts T e.platform s (fun u => u) u0 ((preparedCellV T.toThrowableT (freshCell P1.m.cls kX) a u0 sen).withEntry T0.cur) := by
    refine ⟨{ ci198 := ciB, i198 := iB, fBack := fB }, ⟨b1, b2, b3, b4⟩, ?_, fun _ _ => rfl⟩
    have hz := fresh_default (c := P1.m.cls) tyB
    rw [htB] at hz
    simpa [preparedCellV, Cell.setSlot, Cell.withEntry, Array.getElem?_setIfInBounds, aC, aS, aP, aC.symm, aS.symm, aP.symm, defaultValue] using hz
  obtain ⟨tm, mC, cC, kC, vm₁, hnC, -, -, -, -, -, -, -, hW₁, st1⟩ := Steps.initColdS (tb := p.tables) (e := e) (below := below) (s := s) (U := T0) X.here hexec X.warmed hpl hown (t := Bundle.initS nse) rfl rfl (by decide)
    (inA (.methodLink own ic (Bundle.initS nse)) (by simp [ledA])) (h (.instanceMethod (Bundle.initS nse)) (by simp [ledA, Bundle.passSAtoms])) (bytes := by13) (maxL := 2) (h (.code (Bundle.initS nse) by13 2 none) (by simp [ledA, Bundle.passSAtoms]))
    (f := g) hg (a := a) (msg := msg) (rest := .ref a :: rest) hst d0
  cases Option.some.inj (hnC.symm.trans hP1)
  obtain ⟨vm₂, X₂, st2⟩ := (X.noted hW₁).ctorMessageOffV hexec (g := { g with stack := .ref a :: rest }) hg hsize T L Z LZ M LM (P1 :: P2 :: Ps)
    (fun P hP => by
      rcases List.mem_cons.mp hP with rfl | hP
      · exact L1
      · rcases List.mem_cons.mp hP with rfl | hP
        · exact L2
        · exact hL P hP) ⟨hk1, hk2, hk3⟩ (u0 := u0) (sen := sen) (self := a) hmsg (cell := freshCell P1.m.cls kX) (cellS := cW)
    hcell (fun _ => by simp) (by simp) rfl rfl hsel0 hselF hcW hne hkn (by rw [hkeep _ (fun hm => nomatch hm)]; exact hu0) (by rw [hkeep _ (fun hm => nomatch hm)]; exact hsen)
    (Takes.of_laid hk hord tyC (by rw [Y.causeType]; rfl)) (Takes.of_laid hk hord tyS (by rw [Y.stackType]; exact fits_refV_array _ u0)) (Takes.of_laid hk hord tyP (by rw [Y.suppType]; exact fits_refV_object _ sen))
    (Takes.of_laid hk hord tyM (by rw [Y.msgType]; exact fits_refV_object _ ⟨msg, hmsg⟩)) Y.objLocals hskip htr [] d0
    (by simp only [List.length_cons, hlen, List.length_nil]; omega) (by simp only [List.length_cons, hlen, List.length_nil]; exact hRl)
  obtain ⟨hwalk, hrun, hended, hWU, hsame⟩ := X₂.athrowLeaves hexec (g := { g with stack := .ref a :: rest, pc := g.pc + 3 }) hg hlk hent hout (a := a) (rest := rest) rfl d3
  have hlt : a < ((T0.setVm vm₁).setVm vm₂).heap.size := (Array.getElem?_eq_some_iff.mp hcell).1
  refine ⟨_, st1 _ (fun acts => ?_), hrun, hended, hWU, hsame.weaken (fun y hy hl => ?_) (Nat.le_refl _) (Nat.le_refl _), _, heapAt_setCell_self (s := (T0.setVm vm₁).setVm vm₂) (plainBareV T.toThrowableT (freshCell P1.m.cls kX) a u0 sen msg) hlt, rfl, hfd⟩
  · rw [doInvoke_state]
    exact st2 _ hwalk
  · exfalso
    have hb : y.base = a := by
      simp only [List.nil_append, List.mem_cons, List.not_mem_nil, or_false] at hy
      rcases hy with rfl | rfl | rfl | rfl | rfl <;> rfl
    rw [hb] at hl
    exact Nat.not_lt.mpr hnew hl
end LT
