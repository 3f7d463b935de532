-- A THROW OF NoSuchElementException ITSELF: its constructor links super at place 13, so the kit's rows for a chain of sixes don't fit
section ZNse
def xE : String := "java/util/NoSuchElementException"
def xR : String := "java/lang/RuntimeException"
def xNames : List String := [xR, "java/lang/Exception"]
theorem xc0 : decode prog_26_method_4_code 0 = .ok (.aload_n 0, 1) := by decide +kernel
theorem xc1 : decode prog_26_method_4_code 1 = .ok (.aload_n 1, 1) := by decide +kernel
theorem xc2 : decode prog_26_method_4_code 2 = .ok (.invokespecial 13, 3) := by decide +kernel
theorem xc5 : decode prog_26_method_4_code 5 = .ok (.return_, 1) := by decide +kernel
/-- the kit's words for such a throw, but what they say of the constructor's own code; and what is so of it -/
def xw_all : List Cond := (Bundle.ownAtoms z_R8 163 xE []).filter (fun w => decide (w ≠ .code (Bundle.initS xE) Bundle.six 2 none) && decide (w ≠ .methodLink xE 7 (Bundle.initS Bundle.tN))) ++ (Bundle.passSAtoms xE xR 13 prog_26_method_4_code ++ Bundle.chainSAtoms xR ["java/lang/Exception"])
def xw : List Cond := xw_all.filter vx_no
theorem xw_t : Bundle.throwableAtoms.all (fun w => decide (w ∈ xw_all)) = true := by decide +kernel
theorem xw_s : Bundle.throwableSAtoms.all (fun w => decide (w ∈ xw_all)) = true := by decide +kernel
theorem xw_in {L : List Cond} (h : L.all (fun w => decide (w ∈ xw_all)) = true) : ∀ w ∈ L, w ∈ xw_all := fun w hw => of_decide_eq_true (List.all_eq_true.mp h w hw)
variable {p : Program} {l : Launch} {e : Env} {R : Room} {s : State} {m : MethodId} {args : Array Value} {below : List Frame} {meth : Method} {c : Code} {U : State} {locs : List Loc} {cells slots : Nat}
/-- the three constructors above the throwable's own, in their order -/
theorem xw_chain {pl : Platform} (hpl : pl.magicAccessors = ({} : Platform).magicAccessors) {top : MethodId} (htop : s.methodNamed? (Bundle.initS Bundle.tN) = some top) (h : ∀ w ∈ xw_all, w.before args s = true) :
    ∃ P1 P2 P3 : PassC, P1.LinksS pl s ∧ P2.LinksS pl s ∧ P3.LinksS pl s ∧ s.methodNamed? (Bundle.initS xE) = some P1.m ∧ P1.sup = P2.m ∧ P2.sup = P3.m ∧ P3.sup = top := by
  have g1 : ∀ w ∈ Bundle.passSAtoms xE xR 13 prog_26_method_4_code, w.before args s = true := fun w hw => h w (List.mem_append.mpr (Or.inr (List.mem_append.mpr (Or.inl hw))))
  have g2 : ∀ w ∈ Bundle.passSAtoms xR "java/lang/Exception" 7 Bundle.six, w.before args s = true := fun w hw => h w (List.mem_append.mpr (Or.inr (List.mem_append.mpr (Or.inr (List.mem_append.mpr (Or.inl hw))))))
  have g3 : ∀ w ∈ Bundle.passSAtoms "java/lang/Exception" Bundle.tN 7 Bundle.six, w.before args s = true := fun w hw => h w (List.mem_append.mpr (Or.inr (List.mem_append.mpr (Or.inr (List.mem_append.mpr (Or.inr hw))))))
  obtain ⟨P1, l1, m1, s1⟩ := PassC.ofS_atoms hpl (by decide +kernel) (by decide +kernel) xc0 xc1 xc2 xc5 g1
  obtain ⟨P2, l2, m2, s2⟩ := PassC.ofS_atoms hpl (by decide +kernel) (by decide +kernel) Bundle.six_0 Bundle.six_1 Bundle.six_2 Bundle.six_5 g2
  obtain ⟨P3, l3, m3, s3⟩ := PassC.ofS_atoms hpl (by decide +kernel) (by decide +kernel) Bundle.six_0 Bundle.six_1 Bundle.six_2 Bundle.six_5 g3
  exact ⟨P1, P2, P3, l1, l2, l3, m1, Option.some.inj (s1.symm.trans m2), Option.some.inj (s2.symm.trans m3), Option.some.inj (s3.symm.trans htop)⟩
set_option maxHeartbeats 1000000 in
/-- from the constructor's call to the throw: no new object, the method is left with the exception -/
theorem xw_throw (X : Stand p l e R s m args below meth c U [] cells slots) (hexec : p.tables.exec = Jvm.exec) (htr : e.platform.stackTraces = false) (hown : s.vm.findClass z_R8 = some m.cls) (h : ∀ w ∈ xw_all, w.before args s = true)
    {a : Addr} {cX : ClassId} {kX : Class} (hfX : s.vm.findClass xE = some cX) (hkX : s.vm.classes[cX]? = some kX) (hcell : U.heap[a]? = some (freshCell cX kX)) (hnew : s.heap.size ≤ a) {msg : Value} (hmsg : msg.isRef = true)
    {g : JFrame} (hg : g.method = m) (hsize : g.locals.size = c.maxLocals) (hlocked : g.locked = none) (hentered : g.entered = []) {rest : List Value} (hstack : g.stack = msg :: .ref a :: .ref a :: rest)
    (hd : decode c.code g.pc = .ok (.invokespecial 163, 3)) (hd3 : decode c.code (g.pc + 3) = .ok (.athrow, 1)) (hout : ∀ x ∈ c.exceptionTable.toList, covers x (g.pc + 3) = false)
    (hR1 : 5 < R.frames) (hR2 : 2 * g.monitorRoom + ((Value.ref a :: rest).map fun v => v.category).sum + 81 ≤ R.locals) (hlocks : meth.locks = false) :
    ∃ V : State, Steps p.tables e below (U.setTop g) V ∧ V.status = .running ∧ Ended V below (.threw a) ∧ s.WarmedH V.vm ∧ s.sameButNew ({ V with vm := s.vm } : State) [] cells slots ∧
      ∃ ce, V.heap[a]? = some ce ∧ s.vm.findClass xE = some ce.cls ∧ ce.vm = .none := by
  have hpt := X.admits.platform
  have hpl : e.platform.magicAccessors = ({} : Platform).magicAccessors := by rw [hpt]
  have tab : ∀ w : Cond, decide (w ∈ xw_all) = true → w.holds args s none s [] = true := fun w hw => h w (of_decide_eq_true hw)
  obtain ⟨T, Z0, L, -, Y⟩ := ThrowableC.of_atoms (args := args) (s := s) (pl := e.platform) (by rw [hpt]) (by rw [hpt]) hpl (fun w hw => h w (xw_in xw_t w hw))
  obtain ⟨Z, M, LZ, LM, hnZ⟩ := Init0T.ofS_atoms (args := args) hpl L Y (fun w hw => h w (xw_in xw_s w hw))
  obtain ⟨P1, P2, P3, l1, l2, l3, hm, e12, e23, e3⟩ := xw_chain (args := args) hpl hnZ h
  have hf1 : s.vm.findClass xE = some P1.m.cls := findClass_of_methodNamed hm
  obtain rfl : P1.m.cls = cX := Option.some.inj (hf1.symm.trans hfX)
  have hord : _ := (Cond.instantiable_spec (tab (.instantiable xE 6) (by decide +kernel)))
  obtain ⟨c1, k1, hc1, hk1, hord, -, -, hn6⟩ := hord
  obtain rfl : P1.m.cls = c1 := Option.some.inj (hf1.symm.trans hc1)
  obtain rfl : kX = k1 := Option.some.inj (hkX.symm.trans hk1)
  have selO : ∀ (x : MethodName) (mt : MethodId), decide (Cond.selects xE x x ∈ xw_all) = true → s.methodNamed? x = some mt → s.methodFound? x.cls x.name x.desc = some mt → selectMethod e.platform s.vm P1.m.cls mt = .method mt := by
    intro x mt hx hn hfd
    obtain ⟨c2, r2, m2, q1, q2, q3, q4, -⟩ := Cond.selects_spec (tab _ hx)
    obtain rfl : P1.m.cls = c2 := Option.some.inj (hf1.symm.trans q1)
    obtain rfl : mt = r2 := Option.some.inj (hfd.symm.trans q2)
    obtain rfl : mt = m2 := Option.some.inj (hn.symm.trans q3)
    rw [Launch.admits_selectMethod X.admits]
    exact q4
  have sel0 := selO Bundle.tFill0 T.fill0 (by decide +kernel) Y.fill0 (State.methodFound?_of_named Y.fill0 (by decide))
  have selF := selO Bundle.tFill T.fill (by decide +kernel) Y.fill (State.methodFound?_of_named Y.fill (by decide))
  obtain ⟨cS, hcS, hiss⟩ := Y.statics
  obtain ⟨u0, hu0⟩ := Cond.staticRefV Y.unassigned L.unassignedStatic L.statics hcS hiss (tab (.isRef (.static Bundle.tN "UNASSIGNED_STACK" Bundle.steD)) (by decide +kernel))
  obtain ⟨sen, hsen⟩ := Cond.staticRefV Y.sentinel L.sentinelStatic L.statics hcS hiss (tab (.isRef (.static Bundle.tN "SUPPRESSED_SENTINEL" Bundle.listD)) (by decide +kernel))
  obtain ⟨ci, i, fB, kk, kg, ka, ks, -, nB, tB, ffB⟩ := Cond.ownField (t := .object "java/lang/Object") Y.found L.cls (by decide +kernel) (tab (.fieldLink Bundle.tN 198 Bundle.tN "backtrace" "Ljava/lang/Object;") (by decide +kernel)) (tab (.lays Bundle.tN Bundle.tN "backtrace" "Ljava/lang/Object;") (by decide +kernel)) e.platform hpl
  -- the statics' cell stands as it stood
  obtain ⟨cS', hcS', eS, -, keep⟩ := X.same.2.2.2.2.2 T.aS cS hcS
  have hcU : U.heap[T.aS]? = some cS' := hcS'
  have known : cS'.vm ≠ .unknown := by
    rw [eS]
    intro hu
    rw [show cS.vm = .unknown from hu] at hiss
    cases hiss
  have apart : T.aS ≠ a := Nat.ne_of_lt (Nat.lt_of_lt_of_le (Array.getElem?_eq_some_iff.mp hcS).1 hnew)
  -- the slots of the five fields
  obtain ⟨iM, ffM⟩ := Y.msg
  obtain ⟨tyC, dC, c2, c3⟩ := Cond.laysAt hf1 hkX Y.cause (tab (.lays xE Bundle.tN "cause" "Ljava/lang/Throwable;") (by decide +kernel))
  obtain ⟨tyS, dS, s2, s3⟩ := Cond.laysAt hf1 hkX Y.stack (tab (.lays xE Bundle.tN "stackTrace" Bundle.steD) (by decide +kernel))
  obtain ⟨tyP, dP, p2, p3⟩ := Cond.laysAt hf1 hkX Y.supp (tab (.lays xE Bundle.tN "suppressedExceptions" Bundle.listD) (by decide +kernel))
  obtain ⟨tyM, -⟩ := Cond.laysAt hf1 hkX ffM (tab (.lays xE Bundle.tN "detailMessage" "Ljava/lang/String;") (by decide +kernel))
  obtain ⟨tyB, dB, b2, b3⟩ := Cond.laysAt hf1 hkX ffB (tab (.lays xE Bundle.tN "backtrace" "Ljava/lang/Object;") (by decide +kernel))
  have nC := Cond.laysApart b2 c2 b3 c3 (by rw [nB, Y.causeName]; decide)
  have nS := Cond.laysApart b2 s2 b3 s3 (by rw [nB, Y.stackName]; decide)
  have nP := Cond.laysApart b2 p2 b3 p3 (by rw [nB, Y.suppName]; decide)
  have skip : SkipFacts T e.platform s (fun u => u) u0 ((preparedCellV T.toThrowableT (freshCell P1.m.cls kX) a u0 sen).withEntry U.cur) := by
    refine ⟨{ ci198 := ci, i198 := i, fBack := fB }, ⟨kk, kg, ka, ks⟩, ?_, fun _ _ => rfl⟩
    have hz := fresh_default (c := P1.m.cls) tyB
    rw [tB] at hz
    simpa [preparedCellV, Cell.setSlot, Cell.withEntry, Array.getElem?_setIfInBounds, nC, nS, nP, nC.symm, nS.symm, nP.symm, defaultValue] using hz
  -- the call
  obtain ⟨tm, -, -, -, vm1, hn1, -, -, -, -, -, -, -, hW1, st1⟩ := Steps.initColdS (tb := p.tables) (e := e) (below := below) (s := s) (U := U) X.here hexec X.warmed hpl hown (t := Bundle.initS xE) rfl rfl ⟨by decide +kernel, by decide +kernel⟩
    (tab (.methodLink z_R8 163 (Bundle.initS xE)) (by decide +kernel)) (h (.instanceMethod (Bundle.initS xE)) (of_decide_eq_true (by decide +kernel))) (bytes := prog_26_method_4_code) (maxL := 2) (h (.code (Bundle.initS xE) prog_26_method_4_code 2 none) (of_decide_eq_true (by decide +kernel))) (f := g) hg (a := a) (msg := msg) (rest := .ref a :: rest) hstack hd
  obtain rfl : tm = P1.m := Option.some.inj (hn1.symm.trans hm)
  have X1 := X.noted hW1
  obtain ⟨vm2, X2, st2⟩ := X1.ctorMessageOffV hexec (g := { g with stack := .ref a :: rest }) hg hsize T L Z LZ M LM [P1, P2, P3]
    (fun P hP => by
      simp only [List.mem_cons, List.not_mem_nil, or_false] at hP
      rcases hP with rfl | rfl | rfl
      · exact l1
      · exact l2
      · exact l3) ⟨e12, e23, e3, trivial⟩ (u0 := u0) (sen := sen) (self := a) hmsg (cell := freshCell P1.m.cls kX) (cellS := cS')
    hcell (fun _ => by simp) (by simp) rfl rfl sel0 selF hcU apart known (by rw [keep _ (fun hz => nomatch hz)]; exact hu0) (by rw [keep _ (fun hz => nomatch hz)]; exact hsen)
    (Takes.of_laid hkX hord tyC (by rw [Y.causeType]; rfl)) (Takes.of_laid hkX hord tyS (by rw [Y.stackType]; exact fits_refV_array _ u0)) (Takes.of_laid hkX hord tyP (by rw [Y.suppType]; exact fits_refV_object _ sen))
    (Takes.of_laid hkX hord tyM (by rw [Y.msgType]; exact fits_refV_object _ ⟨msg, hmsg⟩)) Y.objLocals skip htr [] hd hR1 hR2
  obtain ⟨w1, w2, w3, w4, w5⟩ := X2.athrowLeaves hexec (g := { g with stack := .ref a :: rest, pc := g.pc + 3 }) hg hlocked hentered hout (a := a) (rest := rest) rfl hd3
  have hlt : a < ((U.setVm vm1).setVm vm2).heap.size := (Array.getElem?_eq_some_iff.mp hcell).1
  refine ⟨_, st1 _ (fun acts => by rw [doInvoke_state]; exact st2 _ w1), w2, w3, w4, w5.weaken (fun y hy hl => ?_) (Nat.le_refl _) (Nat.le_refl _), _, heapAt_setCell_self (s := (U.setVm vm1).setVm vm2) (plainBareV T.toThrowableT (freshCell P1.m.cls kX) a u0 sen msg) hlt, hf1, rfl⟩
  have hb : y.base = a := by
    simp only [List.nil_append, List.mem_cons, List.not_mem_nil, or_false] at hy
    rcases hy with rfl | rfl | rfl | rfl | rfl <;> rfl
  rw [hb] at hl
  exact absurd hl (Nat.not_lt.mpr hnew)
end ZNse
section ZNse2
variable {p : Program} {l : Launch} {e : Env} {R : Room} {s : State} {m : MethodId} {args : Array Value} {below : List Frame} {meth : Method} {c : Code} {H : Heap} {locs : List Loc} {cells slots : Nat} {Q : State → Prop}
variable {mc ms : Nat} {free : Addr → Prop} {A0 A1 : Nat → Prop} {H0 : Heap} {a : Array Value} {ls : Array Slot} {st0 rest : List Value}
variable {Qc : Array Value → State → Outcome → State → Prop} {XC : String → State → State → Prop}
theorem xw_row {cc : ByteArray} {pc w : Nat} (hexec : p.tables.exec = Jvm.exec) (hb : c.code = cc) (hl : l.stackTraces = false) {text : String} {ik is mc ms sa : Nat} {A : Nat → Prop}
    (hown : s.vm.findClass z_R8 = some m.cls) (hk : (Cond.classLink z_R8 ik xE).before args s = true) (hini : (Cond.initialized xE).before args s = true) (hstr : vk_R z_R8 is text sa s) (hat : ∀ w ∈ xw, w.before args s = true)
    (hgood : ∀ w ∈ Cond.classLink z_R8 ik xE :: Cond.initialized xE :: xw, vx_ot w = true)
    (hU : vx_Zq Bundle.tN "UNASSIGNED_STACK" Bundle.steD A s s.heap) (hN : vx_Zq Bundle.tN "SUPPRESSED_SENTINEL" Bundle.listD A s s.heap) (hS : va_S A s.heap H locs) (hsize : ls.size = c.maxLocals)
    (d0 : decode cc pc = .ok (.new ik, 3)) (d3 : decode cc (pc + 3) = .ok (.dup, 1)) (d4 : (decode cc (pc + 4) = .ok (.ldc is, 2) ∧ w = 2) ∨ (decode cc (pc + 4) = .ok (.ldc_w is, 3) ∧ w = 3)) (d6 : decode cc (pc + 4 + w) = .ok (.invokespecial 163, 3)) (d9 : decode cc (pc + 4 + w + 3) = .ok (.athrow, 1))
    (hout : ∀ x ∈ c.exceptionTable.toList, covers x (pc + 4 + w + 3) = false)
    (hRframes : 5 < R.frames) (hRlocals : (rest.map fun v => v.category).sum + 82 ≤ R.locals) (hRcells : cells + 1 ≤ R.cells) (hRslots : slots + 6 ≤ R.slots) (hlocks : meth.locks = false)
    (hx : ∀ t : State, s.vm.Alike t.vm → H.size ≤ t.heap.size → (∀ q : Nat, q < H.size → t.heap[q]? = H[q]?) → XC xE s t)
    (hf : ∀ z ∈ locs, free z.base) (hc : cells + 1 ≤ mc) (hs : slots + 6 ≤ ms) :
    W p l e R s m args below meth c H locs cells slots (vx_MQ below Qc XC args s mc ms free) (F0 m pc ls rest) := by
  intro T hT X
  have htr : e.platform.stackTraces = false := (show e.platform.stackTraces = l.stackTraces by rw [X.admits.platform]).trans hl
  have Y := vx_rebase X (R' := { frames := R.frames, locals := R.locals, cells := 1, slots := 6 }) (Nat.le_refl _) (Nat.le_refl _) hRcells hRslots
  obtain ⟨s', hA⟩ : ∃ z, z = (T.setVm s.vm).setFrames (.invoking m args :: below) := ⟨_, rfl⟩
  rw [← hA] at Y
  have hvm : s'.vm = s.vm := by rw [hA]; rfl
  have hhp : s'.heap = H := by rw [hA]; exact hT
  have hW0 : s.WarmedH s'.vm := by rw [hvm]; exact State.WarmedH.refl s
  have here : ∀ w, w ∈ Cond.classLink z_R8 ik xE :: Cond.initialized xE :: xw → w.before args s = true → w.before args s' = true := fun w hw h => vx_ot_at hW0 hvm.symm (hgood w hw) h
  have hk' := here _ List.mem_cons_self hk
  have hini' := here _ (List.mem_cons_of_mem _ List.mem_cons_self) hini
  have hU' : vx_Zq Bundle.tN "UNASSIGNED_STACK" Bundle.steD A s' s'.heap := by rw [hhp]; exact vx_Zq.moved hW0.alike (hU.kept hS.2.1)
  have hN' : vx_Zq Bundle.tN "SUPPRESSED_SENTINEL" Bundle.listD A s' s'.heap := by rw [hhp]; exact vx_Zq.moved hW0.alike (hN.kept hS.2.1)
  have h : ∀ w ∈ xw_all, w.before args s' = true := vx_own (fun w hw => here w (List.mem_cons_of_mem _ (List.mem_cons_of_mem _ hw)) (hat w hw)) (vx_isRefq hU'.1) (vx_isRefq hN'.1) hU'.2.word hN'.2.word
  have hown' : s'.vm.findClass z_R8 = some m.cls := by rw [hvm]; exact hown
  obtain ⟨vm₁, cX, kX, hfX, hkX, -, -, X₁, st1⟩ := Y.newCold hexec (own := z_R8) (C := xE) (index := ik) (n := 6) hown' hk' (h _ (of_decide_eq_true (by decide +kernel))) hini'
    (g := F0 m pc ls rest) rfl (by rw [hb]; exact d0) (Nat.le_refl _) (Nat.le_refl _)
  generalize hT1 : (T.setVm vm₁).pushCell { cls := cX, slots := kX.instanceTypes.map defaultValue, vm := .none } = T1 at X₁ st1
  have hcat : (Value.ref T.heap.size).category = 1 := rfl
  have hcellA : T1.heap[T.heap.size]? = some (freshCell cX kX) := by rw [← hT1]; exact State.heap_pushCell_size _ _
  have hstr' : vk_R z_R8 is text sa s' := vk_R.warm hW0 hstr
  obtain ⟨U, hsteps, hrun, hend, hW, hsame, ce, hce, hcl, hvm9⟩ := xw_throw X₁ hexec htr hown' h hfX hkX hcellA (by rw [hhp, hT]; exact Nat.le_refl _) (msg := .ref sa) rfl
    (g := { method := m, pc := pc + 4 + w, locals := ls, stack := .ref sa :: .ref T.heap.size :: .ref T.heap.size :: rest, locked := none }) rfl hsize rfl rfl (rest := rest) rfl
    (by rw [hb]; exact d6) (by rw [hb]; exact d9) hout hRframes (by
      simp only [List.map_cons, List.sum_cons, hcat]
      show 2 * 0 + _ + 81 ≤ R.locals
      omega) hlocks
  obtain ⟨f1, f2⟩ := vx_frame hsame
  rw [hhp] at f1 f2
  have hWs : s.WarmedH U.vm := State.WarmedH.trans hW0 hW
  rw [hvm] at hcl
  have hall : s.sameButNew ({ U with vm := s.vm } : State) locs mc ms := by
    subst hA
    obtain ⟨e1, e2⟩ := hsame
    rw [State.setFrames_setFrames] at e1
    have h2 : (T.setVm s.vm).sameButNew ({ U with vm := s.vm } : State) [] (0 + 1) (0 + 6) := ⟨e1, e2⟩
    have h3 := X.same.trans h2
    rw [List.append_nil] at h3
    exact h3.mono hc hs
  refine ⟨U, ?_, .threw T.heap.size, hrun, hend, Or.inr ⟨T.heap.size, rfl, xE, ce, locs, hx U hWs.alike f1 (fun q hq => f2 q hq (fun z hz => nomatch hz)), hce, hvm9, hcl, hWs, hall, hf⟩⟩
  refine st1 _ ?_
  have d3' : decode c.code (pc + 3) = .ok (.dup, 1) := by rw [hb]; exact d3
  show Steps p.tables e below (T1.setTop { method := m, pc := pc + 3, locals := ls, stack := .ref T.heap.size :: rest, locked := none }) _
  jvm_step X₁.here [X₁.here.top, hexec, d3', Value.category]
  rcases d4 with ⟨d4, rfl⟩ | ⟨d4, rfl⟩
  · have d4' : decode c.code (pc + 4) = .ok (.ldc is, 2) := by rw [hb]; exact d4
    exact X₁.ldcString hexec (own := z_R8) (text := text) (index := is) (a := sa) hown' hstr'.1 hstr'.2
      (g := { method := m, pc := pc + 4, locals := ls, stack := .ref T.heap.size :: .ref T.heap.size :: rest, locked := none }) rfl d4' _ hsteps
  · have d4' : decode c.code (pc + 4) = .ok (.ldc_w is, 3) := by rw [hb]; exact d4
    exact X₁.ldcStringW hexec (own := z_R8) (text := text) (index := is) (a := sa) hown' hstr'.1 hstr'.2
      (g := { method := m, pc := pc + 4, locals := ls, stack := .ref T.heap.size :: .ref T.heap.size :: rest, locked := none }) rfl d4' _ hsteps
end ZNse2
