-- writing into what has been made; calls of constructors
section Z9b
variable {g : ZG} {b0 d : Nat} {y : ZMI} {pc : Nat} {L : List (Nat × Value)} {S : List Value} {k n : Nat} {ws : ZBs} {E : BF}
def BFF (own : String) (ix c j : Nat) (ty : FieldType) : Prop := ∃ R T N, ZCL c R T N ∧ j < N ∧ Cond.fieldLink own ix (T j).1 (T j).2.1 (T j).2.2.1 ∈ GW ∧ (T j).2.2.2 = true ∧ (T j).1 = own ∧ parseFieldDescriptor (T j).2.2.1 = some ty
theorem BO.putF {ix ci j q0 a : Nat} {fs : List Value} {ty : FieldType} {v : Value} (hd : decode y.2.1 pc = .ok (.putfield ix, 3)) (hf : BFF y.1.cls ix ci j ty) (hi : y.1.name = "<init>") (he : ws[q0]? = some (.inr (ci, fs))) (ha : b0 + q0 = a) (hn : narrow ty v = v) (hfit : fits ty v = true) (hl : j < fs.length)
    (kk : BO g b0 d y (pc + 3) L S k n (ws.set q0 (.inr (ci, fs.set j v))) E) : BO g b0 d y pc L (v :: .ref a :: S) k n ws E := by
  intro p e R s m args below meth c hC hr Z k9 H locs ls hR hL
  obtain ⟨hx, hb, hml, hown, hts, hK, -, -, -, hnm9⟩ := id hC
  obtain ⟨Rn, T, N, ⟨hc, hin, hN, ⟨ty0, hty⟩, hnm⟩, hj, hlink, hfin, hdecl, hp⟩ := hf
  obtain ⟨hP, hz, hS⟩ := hR
  subst ha
  have he := bW_at (b0 := b0) he
  have hap := va_apart (own := y.1.cls) hts hin ty0 hty hnm hK hc
  obtain ⟨r, h1, cell, q1, q2, q3, q4⟩ := hP q0 _ he
  cases Option.some.inj (h1.symm.trans hc)
  obtain ⟨hSl, hfc, kC, hkC, hkind⟩ := hK.1 ci _ hc
  obtain ⟨cf, kf, fi, f, hif, hsl⟩ := hSl j hj
  have hlay := hts _ (hin _ (u_in_lay hj))
  unfold u_lay at hlay
  rw [if_pos hfin] at hlay
  have hst := (u_facts hfc hkC (u_lays hts hin hj) hif).1
  have hcf : m.cls = cf := by
    obtain ⟨_, _, c', _, _, _, -, -, hf', -, -, -, hown2, -⟩ := Cond.laysFinal_spec hlay
    have e1 : c' = cf := by have := hif.symm.trans hf'; simp at this; exact this.1.symm
    rw [hdecl] at hown2
    rw [← e1]; exact Option.some.inj (hown.symm.trans hown2)
  have h6 := u_fits hfc hkC hkind (Or.inr hlay) hif hp hn hfit
  refine W.putFinK hx hb hown (hts _ hlink) hif hst hcf (hnm9.trans hi) (by rw [q2]; exact h6) q1 q3 (by rw [hsl]; exact k2_hasslot (q4 j hj)) rfl rfl hd fun H' e1 e2 e3 => ?_
  rw [hsl] at e1 ⊢
  refine kk p _ R s m args below meth c hC hr Z k9 H' _ ls (BR.set ?_ (by rw [e2, hz]) (hS.put e2 e3 (bW_D.2 q0 _ he))) hL
  exact hP.set bW_D he ⟨_, hc, t_OB.to (V := updV (vp_V fs) j v) ⟨_, e1, q2, q3, t_set q4 hap hj v⟩ (fun i _ => vp_updV_set hl v i)⟩ e3
theorem BO.put {ix ci j q0 a : Nat} {fs : List Value} {ty : FieldType} {v : Value} (hd : decode y.2.1 pc = .ok (.putfield ix, 3)) (hf : ZFP y.1.cls ix ci j ty) (he : ws[q0]? = some (.inr (ci, fs))) (ha : b0 + q0 = a) (hn : narrow ty v = v) (hfit : fits ty v = true) (hl : j < fs.length)
    (kk : BO g b0 d y (pc + 3) L S k n (ws.set q0 (.inr (ci, fs.set j v))) E) : BO g b0 d y pc L (v :: .ref a :: S) k n ws E := by
  intro p e R s m args below meth c hC hr Z k9 H locs ls hR hL
  obtain ⟨hx, hb, hml, hown, hts, hK, -, -, -, hnm9⟩ := id hC
  obtain ⟨Rn, T, N, ⟨hc, hin, hN, ⟨ty0, hty⟩, hnm⟩, hj, hlink, hfin, hp⟩ := hf
  obtain ⟨hP, hz, hS⟩ := hR
  subst ha
  have he := bW_at (b0 := b0) he
  have hap := va_apart (own := y.1.cls) hts hin ty0 hty hnm hK hc
  obtain ⟨r, h1, cell, q1, q2, q3, q4⟩ := hP q0 _ he
  cases Option.some.inj (h1.symm.trans hc)
  obtain ⟨hSl, hfc, kC, hkC, hkind⟩ := hK.1 ci _ hc
  obtain ⟨cf, kf, fi, f, hif, hsl⟩ := hSl j hj
  have hlay := hts _ (hin _ (u_in_lay hj))
  unfold u_lay at hlay
  rw [if_neg (by rw [hfin]; decide)] at hlay
  have hst := (u_facts hfc hkC (u_lays hts hin hj) hif).1
  have h6 := u_store hfc hkC hkind hlay hif hp hn hfit
  refine W.putK hx hb (f := f) ⟨hown, hts _ hlink, ⟨_, _, _, hif⟩, hst⟩ (by rw [q2]; exact h6) q1 q3 (by rw [hsl]; exact k2_hasslot (q4 j hj)) rfl rfl hd fun H' e1 e2 e3 => ?_
  rw [hsl] at e1 ⊢
  refine kk p _ R s m args below meth c hC hr Z k9 H' _ ls (BR.set ?_ (by rw [e2, hz]) (hS.put e2 e3 (bW_D.2 q0 _ he))) hL
  exact hP.set bW_D he ⟨_, hc, t_OB.to (V := updV (vp_V fs) j v) ⟨_, e1, q2, q3, t_set q4 hap hj v⟩ (fun i _ => vp_updV_set hl v i)⟩ e3
theorem BO.get {ix ci j q0 a : Nat} {fs : List Value} {v : Value} (hd : decode y.2.1 pc = .ok (.getfield ix, 3)) (hf : ZFL y.1.cls ix ci j) (he : ws[q0]? = some (.inr (ci, fs))) (ha : b0 + q0 = a) (hv : fs[j]? = some v)
    (kk : BO g b0 d y (pc + 3) L (v :: S) k n ws E) : BO g b0 d y pc L (.ref a :: S) k n ws E := by
  intro p e R s m args below meth c hC hr Z k9 H locs ls hR hL
  obtain ⟨hx, hb, hml, hown, hts, hK, -, -, -, hnm9⟩ := id hC
  obtain ⟨Rn, T, N, ⟨hc, hin, hN, -, -⟩, hj, hlink⟩ := hf
  subst ha
  exact va_get hx hb hts hin hown hK hR.1 q0 (bW_at he) hc j hj (hts _ hlink) (fun _ h9 => h9) hv hd (kk p _ R s m args below meth c hC hr Z k9 H locs ls hR hL)
theorem BO.iast {q0 a N : Nat} {f : Nat → Int32} {i x : Int32} (hd : decode y.2.1 pc = .ok (.iastore, 1)) (he : ws[q0]? = some (.inl (g.2.2.1 0, N, .inl f))) (ha : b0 + q0 = a) (hin : vp_in i N)
    (kk : BO g b0 d y (pc + 1) L S k n (ws.set q0 (.inl (g.2.2.1 0, N, .inl (upd f i.toNatClampNeg x)))) E) : BO g b0 d y pc L (.int x :: .int i :: .ref a :: S) k n ws E := by
  intro p e R s m args below meth c hC hr Z k9 H locs ls hR hL
  obtain ⟨hx, hb, hml, hown, hts, hK, -, -, -, hnm9⟩ := id hC
  obtain ⟨hP, hz, hS⟩ := hR
  subst ha
  have he := bW_at (b0 := b0) he
  refine W.iast hx hb (hP q0 _ he) ((hK.2 0 _ rfl).1 N (fun j => .int (f j))) (fun q => by cases q) (by show ¬ (i < 0 ∨ (arrV _ _ _).slots.size ≤ _); rw [arrV_size]; exact hin) rfl rfl hd fun H1 e1 z oq => ?_
  refine kk p _ R s m args below meth c hC hr Z k9 H1 _ ls (BR.set (hP.set bW_D he ?_ oq) (by rw [z, hz]) (hS.put z oq (bW_D.2 q0 _ he))) hL
  show H1[_]? = some (vp_cell _ _)
  rw [e1, vp_cell_i, vp_cell_i, arrV_store]
  congr 2
  funext q
  by_cases hq : q = i.toNatClampNeg
  · subst hq
    simp [updV, upd]
  · simp [updV, upd, hq]
theorem BO.aast {q0 a qk v ci t0 N : Nat} {r : vw_C} {vs : List Value} {f : Nat → Option Nat} {i : Int32} (hd : decode y.2.1 pc = .ok (.aastore, 1)) (he : ws[q0]? = some (.inl (g.2.2.1 t0, N, .inr (.inr (.inr (.inr f)))))) (ha : b0 + q0 = a) (ht : (z_tys g)[t0]? = some (g.2.2.1 t0, .object r.1)) (hc : z_cls[ci]? = some r) (hv : ws[qk]? = some (.inr (ci, vs))) (hva : b0 + qk = v) (hin : vp_in i N)
    (kk : BO g b0 d y (pc + 1) L S k n (ws.set q0 (.inl (g.2.2.1 t0, N, .inr (.inr (.inr (.inr (va_up f i.toNatClampNeg (some v)))))))) E) : BO g b0 d y pc L (.ref v :: .int i :: .ref a :: S) k n ws E := by
  intro p e R s m args below meth c hC hr Z k9 H locs ls hR hL
  obtain ⟨hx, hb, hml, hown, hts, hK, -, -, -, hnm9⟩ := id hC
  obtain ⟨hP, hz, hS⟩ := hR
  subst ha hva
  have he := bW_at (b0 := b0) he
  have hv := bW_at (b0 := b0) hv
  have hlt : i.toNatClampNeg < N := Nat.not_le.mp fun q => hin (Or.inr q)
  have h0 : ¬ i < 0 := fun q => hin (Or.inl q)
  obtain ⟨r', hr', cellV, g1, g2, g3, -⟩ := hP qk _ hv
  have hcls := (hK.1 ci r hc).2
  obtain ⟨kA, comp, k1, k2, k3, -⟩ := (hK.2 t0 _ ht).2
  cases Option.some.inj (k3.symm.trans hcls.1)
  obtain ⟨kC, hkC, -⟩ := hcls.2
  refine W.aast hx hb (hP q0 _ he) (fun q h => by cases h) (fun h => by cases h) k1 k2 rfl hkC ⟨h0, by show _ < (arrV _ _ _).slots.size; rw [arrV_size]; exact hlt⟩ g1 (fun q h => by rw [g3] at h; cases h) (by rw [g2]; exact hkC) (by rw [g2]; exact va_assign hcls) rfl rfl hd fun H1 e1 z oq => ?_
  refine kk p _ R s m args below meth c hC hr Z k9 H1 _ ls (BR.set (hP.set bW_D he ?_ oq) (by rw [z, hz]) (hS.put z oq (bW_D.2 q0 _ he))) hL
  show H1[_]? = some (vp_cell _ _)
  rw [e1, vp_cell_q, vp_cell_q, arrV_store]
  congr 2
  funext q
  by_cases hq : q = i.toNatClampNeg
  · subst hq
    simp [updV, va_up, va_rf]
  · simp [updV, va_up, hq]
/-- a constructor's contract: of an object just made, the last; what it makes comes behind it -/
def BMr (d mc ms : Nat) : Room := { frames := d, cells := mc, slots := ms, locals := 40 * d }
def BP (g : ZG) (b0 ci : Nat) (fs : List Value) (P : ZBs) : Array Value → State → Prop :=
  va_Pc [.ref (b0 + P.length)] (fun U => U.heap.size = b0 + (P ++ [(Sum.inr (ci, fs) : va_E)]).length ∧ va_P g.2.1 z_cls (bW b0 (P ++ [(Sum.inr (ci, fs) : va_E)])) U.heap ∧ va_K g.2.1 z_cls (z_tys g) U ∧ BX U)
def BQ (g : ZG) (b0 : Nat) (P : ZBs) : Array Value → State → Outcome → State → Prop :=
  va_Qv (S := Unit) (fun _ => True) (fun _ t => va_P g.2.1 z_cls (bW b0 P) t.heap ∧ t.heap.size = b0 + P.length) (fun q => b0 ≤ q)
def BM (g : ZG) (b0 d : Nat) (y : ZMI) (ci : Nat) (fs : List Value) (blk : Nat → ZBs) (mc ms : Nat) : Prop :=
  ∀ P : ZBs, Met g.1 y.1 (z_ws y) (BMr d mc ms) (BP g b0 ci fs P) (BQ g b0 (P ++ blk (b0 + P.length))) mc ms (fun q => b0 ≤ q)
theorem BP_blind {ci : Nat} {fs : List Value} {P : ZBs} : FrameBlind (BP g b0 ci fs P) := fun a U g' mk q => by
  obtain ⟨q0, q1, qP, qK, qX⟩ := q
  exact ⟨q0, q1, qP, va_K.moved (u := U) (U := U.calling g' mk a) (Vm.Alike.refl U.vm) qK, qX.blind g' mk a⟩
theorem BM.of {ci mc ms pcR : Nat} {fs : List Value} {blk : Nat → ZBs} {LE : Nat → List (Nat × Value)} (hy : plainName y.1.cls = true) (hret : y.2.2.2 = none) (hlen : 1 ≤ y.2.2.1) (hdR : decode y.2.1 pcR = .ok (.return_, 1))
    (h : ∀ (P : ZBs) (a : Nat), b0 + P.length = a → BO g b0 d y 0 [(0, .ref a)] [] 0 0 (P ++ [(Sum.inr (ci, fs) : va_E)]) (pcR, LE a, [], mc, ms, P ++ blk a)) : BM g b0 d y ci fs blk mc ms := by
  intro P
  refine Met.ofW (cc := y.2.1) (maxL := y.2.2.1) (ret := y.2.2.2) (ws' := GW) hy rfl ?_
  intro p e s m args below meth c s₁ B hml hv
  obtain ⟨rfl, hsz, hP, hK, hX⟩ := hv
  have hr := B.returns
  have hlocks := B.notSynchronized
  have hx := B.exec
  have hb := B.bytes
  have hC : BC g b0 d y p (headSpec (z_ws y) (BMr d mc ms)).room s m ([.ref (b0 + P.length)] : List Value).toArray meth c :=
    ⟨B.exec, B.bytes, hml, findClass_of_methodNamed B.named, fun w hw => atoms_spec (ws := z_ws y) B.pre w (z_wsm hw), hK, ⟨Nat.le_refl _, Nat.le_refl _⟩, hX, by rw [hsz]; exact Nat.le_add_right _ _, (name_of_methodNamed B.named B.method).1⟩
  have hl := lv_entry ([.ref (b0 + P.length)]) (n := y.2.2.1) hlen
  rw [lg_entry_eq]
  generalize (lg_sl ([.ref (b0 + P.length)]) ++ List.replicate (y.2.2.1 - (lg_sl ([.ref (b0 + P.length)])).length) Slot.unset).toArray = ls at hl ⊢
  refine h P _ rfl p e _ s m _ below meth c hC ⟨Nat.le_refl _, Nat.le_refl _⟩ _ (fun H locs ls hR hL => ?_) s.heap [] ls ⟨hP, hsz, va_S.rf⟩ hl
  exact W.vret hx hb (hr.trans hret) (fun t ht hW => ⟨⟨(), rfl, trivial, by rw [ht]; exact hR.1, by rw [ht]; exact hR.2.1⟩, hR.2.2.F ht⟩) hR.2.2.2.2 hdR
theorem BO.callN {y' : ZMI} {ix d' ci mc ms a : Nat} {fs : List Value} {blk : Nat → ZBs} {P : ZBs} (hd : decode y.2.1 pc = .ok (.invokespecial ix, 3)) (hM : BM g b0 d' y' ci fs blk mc ms) (hl : Cond.methodLinkNest y.1.cls ix y'.1 "BesideAnother" ∈ tables_1) (h2 : Cond.instanceMethod y'.1 ∈ GW) (h3 : Cond.initialized y'.1.cls ∈ GW) (h4 : Cond.code y'.1 y'.2.1 y'.2.2.1 none ∈ GW) (hret : y'.2.2.2 = none) (hi : y'.1.name = "<init>")
    (h5 : (y'.1.cls ≠ "java/lang/invoke/MethodHandle" ∧ y'.1.cls ≠ "java/lang/invoke/VarHandle") ∧ (parseMethodDescriptor y'.1.desc).map (fun d => d.parameters.length) = some 0) (h6 : y'.2.2.1 ≤ 21) (hdd : d' < d) (hws : ws = P ++ [(Sum.inr (ci, fs) : va_E)]) (ha : b0 + P.length = a) (hcat : (S.map fun v => v.category).sum ≤ 8) (hk : k + mc ≤ E.2.2.2.1) (hn : n + ms ≤ E.2.2.2.2.1)
    (kk : BO g b0 d y (pc + 3) L S (k + mc) (n + ms) (P ++ blk a) E) : BO g b0 d y pc L (.ref a :: S) k n ws E := by
  intro p e R s m args below meth c hC hr Z k9 H locs ls hR hL
  obtain ⟨hx, hb, hml, hown, hts, hK, hdR, hX, hb0, -⟩ := id hC
  obtain ⟨hP, hz, hS⟩ := hR
  subst ha hws
  have hw : z_ws y' = Cond.code y'.1 y'.2.1 y'.2.2.1 none :: GW := by unfold z_ws; rw [hret]
  have hG : GoodIn GW (z_ws y') := z_good (by rw [hret]; exact h4)
  have hcb := va_cnB (R := R) (args := args) (mc := mc) (ms := ms) (rm := BMr d' mc ms) 0 hts hG hw rfl rfl (hX.1 _ _ _ _ hl) (hts _ h3) ⟨h5.1.1, h5.1.2, h5.2⟩ ⟨by show d' + 1 ≤ R.frames; omega, by show 8 + (y'.2.2.1 + 11) + 40 * d' ≤ R.locals; omega⟩
  refine va_callv (va_runIN (As := []) (rest := S) (nL := y.2.2.1) ⟨hx, hb, hml, hown, hts⟩ (hM P) ⟨hcb, hi, hts _ h2⟩ ⟨BP_blind, fun U hU hW => ⟨rfl, by rw [hU]; exact hz, by rw [hU]; exact hP, va_K.moved hW.alike hK, hX.moved hW⟩⟩ rfl rfl hL.1 rfl (lv_room hcat) hd ⟨Nat.le_trans hk hr.1, Nat.le_trans hn hr.2⟩) hS (fun q _ h => h) (fun q h => h) (fun u t H1 locs1 ht hvm _ hB _ _ hS1 => ?_)
  refine kk p _ R s m args below meth c hC hr Z k9 H1 locs1 ls ⟨?_, ?_, hS1⟩ hL
  · rw [← ht]; exact hB.1
  · rw [← ht]; exact hB.2
theorem BO.callD {y' : ZMI} {ix d' ci mc ms a : Nat} {fs : List Value} {blk : Nat → ZBs} {P : ZBs} (hd : decode y.2.1 pc = .ok (.invokespecial ix, 3)) (hM : BM g b0 d' y' ci fs blk mc ms) (hl : Cond.methodLink y.1.cls ix y'.1 ∈ GW) (h2 : Cond.instanceMethod y'.1 ∈ GW) (h3 : Cond.initialized y'.1.cls ∈ GW) (h4 : Cond.code y'.1 y'.2.1 y'.2.2.1 none ∈ GW) (hret : y'.2.2.2 = none) (hi : y'.1.name = "<init>")
    (h5 : (y'.1.cls ≠ "java/lang/invoke/MethodHandle" ∧ y'.1.cls ≠ "java/lang/invoke/VarHandle") ∧ (parseMethodDescriptor y'.1.desc).map (fun d => d.parameters.length) = some 0) (h6 : y'.2.2.1 ≤ 21) (hdd : d' < d) (hws : ws = P ++ [(Sum.inr (ci, fs) : va_E)]) (ha : b0 + P.length = a) (hcat : (S.map fun v => v.category).sum ≤ 8) (hk : k + mc ≤ E.2.2.2.1) (hn : n + ms ≤ E.2.2.2.2.1)
    (kk : BO g b0 d y (pc + 3) L S (k + mc) (n + ms) (P ++ blk a) E) : BO g b0 d y pc L (.ref a :: S) k n ws E := by
  intro p e R s m args below meth c hC hr Z k9 H locs ls hR hL
  obtain ⟨hx, hb, hml, hown, hts, hK, hdR, hX, hb0, -⟩ := id hC
  obtain ⟨hP, hz, hS⟩ := hR
  subst ha hws
  have hw : z_ws y' = Cond.code y'.1 y'.2.1 y'.2.2.1 none :: GW := by unfold z_ws; rw [hret]
  have hG : GoodIn GW (z_ws y') := z_good (by rw [hret]; exact h4)
  have hcb := cwI (R := R) (args := args) (mc := mc) (ms := ms) (rm := BMr d' mc ms) 0 hts hG hw rfl rfl (hts _ h3) (hts _ hl) (hts _ h2) hi ⟨h5.1.1, h5.1.2, h5.2⟩ ⟨by show d' + 1 ≤ R.frames; omega, by show 8 + (y'.2.2.1 + 11) + 40 * d' ≤ R.locals; omega⟩
  refine va_callv (va_runI (As := []) (rest := S) (nL := y.2.2.1) ⟨hx, hb, hml, hown, hts⟩ (hM P) hcb ⟨BP_blind, fun U hU hW => ⟨rfl, by rw [hU]; exact hz, by rw [hU]; exact hP, va_K.moved hW.alike hK, hX.moved hW⟩⟩ rfl rfl hL.1 rfl (lv_room hcat) hd ⟨Nat.le_trans hk hr.1, Nat.le_trans hn hr.2⟩) hS (fun q _ h => h) (fun q h => h) (fun u t H1 locs1 ht hvm _ hB _ _ hS1 => ?_)
  refine kk p _ R s m args below meth c hC hr Z k9 H1 locs1 ls ⟨?_, ?_, hS1⟩ hL
  · rw [← ht]; exact hB.1
  · rw [← ht]; exact hB.2
end Z9b
