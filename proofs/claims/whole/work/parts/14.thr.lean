-- A THROW OF NoSuchElementException ITSELF: its constructor links super at place 13, so the kit's rows for a chain of sixes don't fit
section ZNse
def xE : String := "java/util/NoSuchElementException"
def xR : String := "java/lang/RuntimeException"
def xNames : List String := [xR, "java/lang/Exception"]
theorem xc0 : decode prog_26_method_4_code 0 = .ok (.aload_n 0, 1) := by decide +kernel
theorem xc1 : decode prog_26_method_4_code 1 = .ok (.aload_n 1, 1) := by decide +kernel
theorem xc2 : decode prog_26_method_4_code 2 = .ok (.invokespecial 13, 3) := by decide +kernel
theorem xc5 : decode prog_26_method_4_code 5 = .ok (.return_, 1) := by decide +kernel
/-- the kit's words for such a throw, but what they say of the constructor's own code; and what is so of it -/
def xw_all : List Cond := (Bundle.ownAtoms z_R8 163 xE []).filter (fun w => decide (w ≠ .code (Bundle.initS xE) Bundle.six 2 none) && decide (w ≠ .methodLink xE 7 (Bundle.initS Bundle.tN))) ++ (Bundle.passSAtoms xE xR 13 prog_26_method_4_code ++ Bundle.chainSAtoms xR ["java/lang/Exception"])
def xw : List Cond := xw_all.filter vx_no
theorem xw_t : Bundle.throwableAtoms.all (fun w => decide (w ∈ xw_all)) = true := by decide +kernel
theorem xw_s : Bundle.throwableSAtoms.all (fun w => decide (w ∈ xw_all)) = true := by decide +kernel
theorem xw_in {L : List Cond} (h : L.all (fun w => decide (w ∈ xw_all)) = true) : ∀ w ∈ L, w ∈ xw_all := fun w hw => of_decide_eq_true (List.all_eq_true.mp h w hw)
variable {p : Program} {l : Launch} {e : Env} {R : Room} {s : State} {m : MethodId} {args : Array Value} {below : List Frame} {meth : Method} {c : Code} {U : State} {locs : List Loc} {cells slots : Nat}
/-- the three constructors above the throwable's own, in their order -/
theorem xw_chain {pl : Platform} (hpl : pl.magicAccessors = ({} : Platform).magicAccessors) {top : MethodId} (htop : s.methodNamed? (Bundle.initS Bundle.tN) = some top) (h : ∀ w ∈ xw_all, w.before args s = true) :
    ∃ P1 P2 P3 : PassC, P1.LinksS pl s ∧ P2.LinksS pl s ∧ P3.LinksS pl s ∧ s.methodNamed? (Bundle.initS xE) = some P1.m ∧ P1.sup = P2.m ∧ P2.sup = P3.m ∧ P3.sup = top := by
  have g1 : ∀ w ∈ Bundle.passSAtoms xE xR 13 prog_26_method_4_code, w.before args s = true := fun w hw => h w (List.mem_append.mpr (Or.inr (List.mem_append.mpr (Or.inl hw))))
  have g2 : ∀ w ∈ Bundle.passSAtoms xR "java/lang/Exception" 7 Bundle.six, w.before args s = true := fun w hw => h w (List.mem_append.mpr (Or.inr (List.mem_append.mpr (Or.inr (List.mem_append.mpr (Or.inl hw))))))
  have g3 : ∀ w ∈ Bundle.passSAtoms "java/lang/Exception" Bundle.tN 7 Bundle.six, w.before args s = true := fun w hw => h w (List.mem_append.mpr (Or.inr (List.mem_append.mpr (Or.inr (List.mem_append.mpr (Or.inr hw))))))
  obtain ⟨P1, l1, m1, s1⟩ := PassC.ofS_atoms hpl (by decide +kernel) (by decide +kernel) xc0 xc1 xc2 xc5 g1
  obtain ⟨P2, l2, m2, s2⟩ := PassC.ofS_atoms hpl (by decide +kernel) (by decide +kernel) Bundle.six_0 Bundle.six_1 Bundle.six_2 Bundle.six_5 g2
  obtain ⟨P3, l3, m3, s3⟩ := PassC.ofS_atoms hpl (by decide +kernel) (by decide +kernel) Bundle.six_0 Bundle.six_1 Bundle.six_2 Bundle.six_5 g3
  exact ⟨P1, P2, P3, l1, l2, l3, m1, Option.some.inj (s1.symm.trans m2), Option.some.inj (s2.symm.trans m3), Option.some.inj (s3.symm.trans htop)⟩
set_option maxHeartbeats 1000000 in
/-- from the constructor's call to the throw: no new object, the method is left with the exception -/
theorem xw_throw (X : Stand p l e R s m args below meth c U [] cells slots) (hexec : p.tables.exec = Jvm.exec) (htr : e.platform.stackTraces = false) (hown : s.vm.findClass z_R8 = some m.cls) (h : ∀ w ∈ xw_all, w.before args s = true)
    {a : Addr} {cX : ClassId} {kX : Class} (hfX : s.vm.findClass xE = some cX) (hkX : s.vm.classes[cX]? = some kX) (hcell : U.heap[a]? = some (freshCell cX kX)) (hnew : s.heap.size ≤ a) {msg : Value} (hmsg : msg.isRef = true)
    {g : JFrame} (hg : g.method = m) (hsize : g.locals.size = c.maxLocals) (hlocked : g.locked = none) (hentered : g.entered = []) {rest : List Value} (hstack : g.stack = msg :: .ref a :: .ref a :: rest)
    (hd : decode c.code g.pc = .ok (.invokespecial 163, 3)) (hd3 : decode c.code (g.pc + 3) = .ok (.athrow, 1)) (hout : ∀ x ∈ c.exceptionTable.toList, covers x (g.pc + 3) = false)
    (hR1 : 5 < R.frames) (hR2 : 2 * g.monitorRoom + ((Value.ref a :: rest).map fun v => v.category).sum + 81 ≤ R.locals) (hlocks : meth.locks = false) :
    ∃ V : State, Steps p.tables e below (U.setTop g) V ∧ V.status = .running ∧ Ended V below (.threw a) ∧ s.WarmedH V.vm ∧ s.sameButNew ({ V with vm := s.vm } : State) [] cells slots ∧
      ∃ ce, V.heap[a]? = some ce ∧ s.vm.findClass xE = some ce.cls ∧ ce.vm = .none := by
  have hpt := X.admits.platform
  have hpl : e.platform.magicAccessors = ({} : Platform).magicAccessors := by rw [hpt]
  have tab : ∀ w : Cond, decide (w ∈ xw_all) = true → w.holds args s none s [] = true := fun w hw => h w (of_decide_eq_true hw)
  obtain ⟨T, Z0, L, -, Y⟩ := ThrowableC.of_atoms (args := args) (s := s) (pl := e.platform) (by rw [hpt]) (by rw [hpt]) hpl (fun w hw => h w (xw_in xw_t w hw))
  obtain ⟨Z, M, LZ, LM, hnZ⟩ := Init0T.ofS_atoms (args := args) hpl L Y (fun w hw => h w (xw_in xw_s w hw))
  obtain ⟨P1, P2, P3, l1, l2, l3, hm, e12, e23, e3⟩ := xw_chain (args := args) hpl hnZ h
  have hf1 : s.vm.findClass xE = some P1.m.cls := findClass_of_methodNamed hm
  obtain rfl : P1.m.cls = cX := Option.some.inj (hf1.symm.trans hfX)
  have hord : _ := (Cond.instantiable_spec (tab (.instantiable xE 6) (by decide +kernel)))
  obtain ⟨c1, k1, hc1, hk1, hord, -, -, hn6⟩ := hord
  obtain rfl : P1.m.cls = c1 := Option.some.inj (hf1.symm.trans hc1)
  obtain rfl : kX = k1 := Option.some.inj (hkX.symm.trans hk1)
  have selO : ∀ (x : MethodName) (mt : MethodId), decide (Cond.selects xE x x ∈ xw_all) = true → s.methodNamed? x = some mt → s.methodFound? x.cls x.name x.desc = some mt → selectMethod e.platform s.vm P1.m.cls mt = .method mt := by
    intro x mt hx hn hfd
    obtain ⟨c2, r2, m2, q1, q2, q3, q4, -⟩ := Cond.selects_spec (tab _ hx)
    obtain rfl : P1.m.cls = c2 := Option.some.inj (hf1.symm.trans q1)
    obtain rfl : mt = r2 := Option.some.inj (hfd.symm.trans q2)
    obtain rfl : mt = m2 := Option.some.inj (hn.symm.trans q3)
    rw [Launch.admits_selectMethod X.admits]
    exact q4
  have sel0 := selO Bundle.tFill0 T.fill0 (by decide +kernel) Y.fill0 (State.methodFound?_of_named Y.fill0 (by decide))
  have selF := selO Bundle.tFill T.fill (by decide +kernel) Y.fill (State.methodFound?_of_named Y.fill (by decide))
  obtain ⟨cS, hcS, hiss⟩ := Y.statics
  obtain ⟨u0, hu0⟩ := Cond.staticRefV Y.unassigned L.unassignedStatic L.statics hcS hiss (tab (.isRef (.static Bundle.tN "UNASSIGNED_STACK" Bundle.steD)) (by decide +kernel))
  obtain ⟨sen, hsen⟩ := Cond.staticRefV Y.sentinel L.sentinelStatic L.statics hcS hiss (tab (.isRef (.static Bundle.tN "SUPPRESSED_SENTINEL" Bundle.listD)) (by decide +kernel))
  obtain ⟨ci, i, fB, kk, kg, ka, ks, -, nB, tB, ffB⟩ := Cond.ownField (t := .object "java/lang/Object") Y.found L.cls (by decide +kernel) (tab (.fieldLink Bundle.tN 198 Bundle.tN "backtrace" "Ljava/lang/Object;") (by decide +kernel)) (tab (.lays Bundle.tN Bundle.tN "backtrace" "Ljava/lang/Object;") (by decide +kernel)) e.platform hpl
  -- the statics' cell stands as it stood
  obtain ⟨cS', hcS', eS, -, keep⟩ := X.same.2.2.2.2.2 T.aS cS hcS
  have hcU : U.heap[T.aS]? = some cS' := hcS'
  have known : cS'.vm ≠ .unknown := by
    rw [eS]
    intro hu
    rw [show cS.vm = .unknown from hu] at hiss
    cases hiss
  have apart : T.aS ≠ a := Nat.ne_of_lt (Nat.lt_of_lt_of_le (Array.getElem?_eq_some_iff.mp hcS).1 hnew)
  -- the slots of the five fields
  obtain ⟨iM, ffM⟩ := Y.msg
  obtain ⟨tyC, dC, c2, c3⟩ := Cond.laysAt hf1 hkX Y.cause (tab (.lays xE Bundle.tN "cause" "Ljava/lang/Throwable;") (by decide +kernel))
  obtain ⟨tyS, dS, s2, s3⟩ := Cond.laysAt hf1 hkX Y.stack (tab (.lays xE Bundle.tN "stackTrace" Bundle.steD) (by decide +kernel))
  obtain ⟨tyP, dP, p2, p3⟩ := Cond.laysAt hf1 hkX Y.supp (tab (.lays xE Bundle.tN "suppressedExceptions" Bundle.listD) (by decide +kernel))
  obtain ⟨tyM, -⟩ := Cond.laysAt hf1 hkX ffM (tab (.lays xE Bundle.tN "detailMessage" "Ljava/lang/String;") (by decide +kernel))
  obtain ⟨tyB, dB, b2, b3⟩ := Cond.laysAt hf1 hkX ffB (tab (.lays xE Bundle.tN "backtrace" "Ljava/lang/Object;") (by decide +kernel))
  have nC := Cond.laysApart b2 c2 b3 c3 (by rw [nB, Y.causeName]; decide)
  have nS := Cond.laysApart b2 s2 b3 s3 (by rw [nB, Y.stackName]; decide)
  have nP := Cond.laysApart b2 p2 b3 p3 (by rw [nB, Y.suppName]; decide)
  have skip : SkipFacts T e.platform s (fun u => u) u0 ((preparedCellV T.toThrowableT (freshCell P1.m.cls kX) a u0 sen).withEntry U.cur) := by
    refine ⟨{ ci198 := ci, i198 := i, fBack := fB }, ⟨kk, kg, ka, ks⟩, ?_, fun _ _ => rfl⟩
    have hz := fresh_default (c := P1.m.cls) tyB
    rw [tB] at hz
    simpa [preparedCellV, Cell.setSlot, Cell.withEntry, Array.getElem?_setIfInBounds, nC, nS, nP, nC.symm, nS.symm, nP.symm, defaultValue] using hz
  -- the call
  obtain ⟨tm, -, -, -, vm1, hn1, -, -, -, -, -, -, -, hW1, st1⟩ := Steps.initColdS (tb := p.tables) (e := e) (below := below) (s := s) (U := U) X.here hexec X.warmed hpl hown (t := Bundle.initS xE) rfl rfl ⟨by decide +kernel, by decide +kernel⟩
    (tab (.methodLink z_R8 163 (Bundle.initS xE)) (by decide +kernel)) (h (.instanceMethod (Bundle.initS xE)) (of_decide_eq_true (by decide +kernel))) (bytes := prog_26_method_4_code) (maxL := 2) (h (.code (Bundle.initS xE) prog_26_method_4_code 2 none) (of_decide_eq_true (by decide +kernel))) (f := g) hg (a := a) (msg := msg) (rest := .ref a :: rest) hstack hd
  obtain rfl : tm = P1.m := Option.some.inj (hn1.symm.trans hm)
  have X1 := X.noted hW1
  obtain ⟨vm2, X2, st2⟩ := X1.ctorMessageOffV hexec (g := { g with stack := .ref a :: rest }) hg hsize T L Z LZ M LM [P1, P2, P3]
    (fun P hP => by
      simp only [List.mem_cons, List.not_mem_nil, or_false] at hP
      rcases hP with rfl | rfl | rfl
      · exact l1
      · exact l2
      · exact l3) ⟨e12, e23, e3, trivial⟩ (u0 := u0) (sen := sen) (self := a) hmsg (cell := freshCell P1.m.cls kX) (cellS := cS')
    hcell (fun _ => by simp) (by simp) rfl rfl sel0 selF hcU apart known (by rw [keep _ (fun hz => nomatch hz)]; exact hu0) (by rw [keep _ (fun hz => nomatch hz)]; exact hsen)
    (Takes.of_laid hkX hord tyC (by rw [Y.causeType]; rfl)) (Takes.of_laid hkX hord tyS (by rw [Y.stackType]; exact fits_refV_array _ u0)) (Takes.of_laid hkX hord tyP (by rw [Y.suppType]; exact fits_refV_object _ sen))
    (Takes.of_laid hkX hord tyM (by rw [Y.msgType]; exact fits_refV_object _ ⟨msg, hmsg⟩)) Y.objLocals skip htr [] hd hR1 hR2
  obtain ⟨w1, w2, w3, w4, w5⟩ := X2.athrowLeaves hexec (g := { g with stack := .ref a :: rest, pc := g.pc + 3 }) hg hlocked hentered hout (a := a) (rest := rest) rfl hd3
  have hlt : a < ((U.setVm vm1).setVm vm2).heap.size := (Array.getElem?_eq_some_iff.mp hcell).1
  refine ⟨_, st1 _ (fun acts => by rw [doInvoke_state]; exact st2 _ w1), w2, w3, w4, w5.weaken (fun y hy hl => ?_) (Nat.le_refl _) (Nat.le_refl _), _, heapAt_setCell_self (s := (U.setVm vm1).setVm vm2) (plainBareV T.toThrowableT (freshCell P1.m.cls kX) a u0 sen msg) hlt, hf1, rfl⟩
  have hb : y.base = a := by
    simp only [List.nil_append, List.mem_cons, List.not_mem_nil, or_false] at hy
    rcases hy with rfl | rfl | rfl | rfl | rfl <;> rfl
  rw [hb] at hl
  exact absurd hl (Nat.not_lt.mpr hnew)
end ZNse
