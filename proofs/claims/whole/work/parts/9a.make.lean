-- what is made: the cells made so far are a list; each lies at the base and its place
section Z9a
abbrev ZBs : Type := List va_E
def bW (b0 : Nat) (ws : ZBs) : va_W := ws.mapIdx (fun k e => (b0 + k, e))
theorem bW_g {b0 k : Nat} {ws : ZBs} : (bW b0 ws)[k]? = (ws[k]?).map (fun e => (b0 + k, e)) := List.getElem?_mapIdx
theorem bW_at {b0 k : Nat} {ws : ZBs} {e : va_E} (h : ws[k]? = some e) : (bW b0 ws)[k]? = some (b0 + k, e) := by rw [bW_g, h]; rfl
theorem bW_len {b0 : Nat} {ws : ZBs} : (bW b0 ws).length = ws.length := by unfold bW; simp
theorem bW_set {b0 k : Nat} {ws : ZBs} {e : va_E} : (bW b0 ws).set k (b0 + k, e) = bW b0 (ws.set k e) := by
  apply List.ext_getElem?
  intro j
  rw [bW_g, List.getElem?_set, List.getElem?_set, bW_g, bW_len]
  by_cases e1 : k = j
  · subst e1
    rw [if_pos rfl, if_pos rfl]
    split <;> rfl
  · rw [if_neg e1, if_neg e1]
theorem bW_app {b0 : Nat} {ws : ZBs} {e : va_E} : bW b0 (ws ++ [e]) = bW b0 ws ++ [(b0 + ws.length, e)] := by
  apply List.ext_getElem?
  intro j
  rw [bW_g, List.getElem?_append, List.getElem?_append, bW_len]
  by_cases e1 : j < ws.length
  · rw [if_pos e1, if_pos e1, bW_g]
  · rw [if_neg e1, if_neg e1]
    by_cases e2 : j = ws.length
    · subst e2; simp
    · rw [List.getElem?_eq_none (by simp; omega), List.getElem?_eq_none (by simp; omega)]; rfl
theorem bW_D {b0 : Nat} {ws : ZBs} : va_D (fun q => b0 ≤ q) (bW b0 ws) := by
  refine ⟨fun i j p q hi hj e => ?_, fun k q h => ?_⟩
  · rw [bW_g, Option.map_eq_some_iff] at hi hj
    obtain ⟨a, _, rfl⟩ := hi
    obtain ⟨b, _, rfl⟩ := hj
    have e : b0 + i = b0 + j := e
    omega
  · rw [bW_g, Option.map_eq_some_iff] at h
    obtain ⟨a, _, rfl⟩ := h
    exact Nat.le_add_right _ _
theorem bW_lt {b0 : Nat} {ws : ZBs} {k : Nat} {x : Nat × va_E} (h : (bW b0 ws)[k]? = some x) : x.1 < b0 + ws.length := by
  have hl := (List.getElem?_eq_some_iff.mp h).1
  rw [bW_len] at hl
  rw [bW_g, Option.map_eq_some_iff] at h
  obtain ⟨a, _, rfl⟩ := h
  exact Nat.add_lt_add_left hl _
def BR (g : ZG) (b0 : Nat) (s : State) (ws : ZBs) (H : Heap) (locs : List Loc) : Prop := va_P g.2.1 z_cls (bW b0 ws) H ∧ H.size = b0 + ws.length ∧ va_S (fun q => b0 ≤ q) s.heap H locs
def BX (s : State) : Prop := (∀ own ix x h, Cond.methodLinkNest own ix x h ∈ tables_1 → va_Nw (.methodLinkNest own ix x h) s) ∧ (∀ C, Cond.arrayOver (.object C) ∈ tables_1 → va_AO C s)
theorem BX.moved {s U : State} (hW : s.WarmedH U.vm) (h : BX s) : BX U := ⟨fun own ix x hh hm => va_Nw.warmM hW (h.1 own ix x hh hm), fun C hm => va_AO.moved hW.alike (h.2 C hm)⟩
theorem BX.blind {U : State} (h : BX U) (g' : JFrame) (mk : MethodId) (a : Array Value) : BX (U.calling g' mk a) :=
  ⟨fun own ix x hh hm => va_Nw.same (u := U) rfl rfl (h.1 own ix x hh hm), fun C hm => va_AO.moved (u := U) (Vm.Alike.refl U.vm) (h.2 C hm)⟩
def BC (g : ZG) (b0 d : Nat) (y : ZMI) (p : Program) (R : Room) (s : State) (m : MethodId) (args : Array Value) (meth : Method) (c : Code) : Prop :=
  p.tables.exec = Jvm.exec ∧ c.code = y.2.1 ∧ c.maxLocals = y.2.2.1 ∧ s.vm.findClass y.1.cls = some m.cls ∧ (∀ w ∈ GW, w.before args s = true) ∧ va_K g.2.1 z_cls (z_tys g) s ∧ (d ≤ R.frames ∧ 40 * d ≤ R.locals) ∧ BX s ∧ b0 ≤ s.heap.size ∧ meth.name = y.1.name
/-- a place on the way: pc, locals, stack, cells and slots made, the world -/
abbrev BF : Type := Nat × List (Nat × Value) × List Value × Nat × Nat × ZBs
def BO (g : ZG) (b0 d : Nat) (y : ZMI) (pc : Nat) (L : List (Nat × Value)) (S : List Value) (k n : Nat) (ws : ZBs) (E : BF) : Prop :=
  ∀ p e R s m args below meth c, BC g b0 d y p R s m args meth c → (E.2.2.2.1 ≤ R.cells ∧ E.2.2.2.2.1 ≤ R.slots) → ∀ Z : State → Prop,
    (∀ H locs ls, BR g b0 s E.2.2.2.2.2 H locs → lv_has ls y.2.2.1 E.2.1 → W p g.1 e R s m args below meth c H locs E.2.2.2.1 E.2.2.2.2.1 Z (F0 m E.1 ls E.2.2.1)) →
    ∀ H locs ls, BR g b0 s ws H locs → lv_has ls y.2.2.1 L → W p g.1 e R s m args below meth c H locs k n Z (F0 m pc ls S)
variable {g : ZG} {b0 d : Nat} {y : ZMI} {pc : Nat} {L : List (Nat × Value)} {S : List Value} {k n : Nat} {ws : ZBs} {E : BF}
theorem BO.done : BO g b0 d y pc L S k n ws (pc, L, S, k, n, ws) := fun p e R s m args below meth c hC hr Z kk H locs ls hR hL => kk H locs ls hR hL
theorem BO.tr {F : BF} (h1 : BO g b0 d y pc L S k n ws F) (hk : F.2.2.2.1 ≤ E.2.2.2.1 ∧ F.2.2.2.2.1 ≤ E.2.2.2.2.1) (h2 : BO g b0 d y F.1 F.2.1 F.2.2.1 F.2.2.2.1 F.2.2.2.2.1 F.2.2.2.2.2 E) : BO g b0 d y pc L S k n ws E :=
  fun p e R s m args below meth c hC hr Z kk H locs ls hR hL => h1 p e R s m args below meth c hC ⟨Nat.le_trans hk.1 hr.1, Nat.le_trans hk.2 hr.2⟩ Z (fun H locs ls hR hL => h2 p e R s m args below meth c hC hr Z kk H locs ls hR hL) H locs ls hR hL
theorem BO.weq {ws' : ZBs} (h : ws = ws') (kk : BO g b0 d y pc L S k n ws' E) : BO g b0 d y pc L S k n ws E := h ▸ kk
theorem BO.aload_n {q : Fin 4} {j v : Nat} (i : Nat) (hd : decode y.2.1 pc = .ok (.aload_n q, 1)) (hj : (q : Nat) = j) (hl : L[i]? = some (j, .ref v)) (kk : BO g b0 d y (pc + 1) L (.ref v :: S) k n ws E) : BO g b0 d y pc L S k n ws E :=
  fun p e R s m args below meth c hC hr Z k9 H locs ls hR hL => lv_aload_n hC.1 hC.2.1 hd hj (lv_at hL i hl) (kk p e R s m args below meth c hC hr Z k9 H locs ls hR hL)
theorem BO.iload_n {q : Fin 4} {j : Nat} {v : Int32} (i : Nat) (hd : decode y.2.1 pc = .ok (.iload_n q, 1)) (hj : (q : Nat) = j) (hl : L[i]? = some (j, .int v)) (kk : BO g b0 d y (pc + 1) L (.int v :: S) k n ws E) : BO g b0 d y pc L S k n ws E :=
  fun p e R s m args below meth c hC hr Z k9 H locs ls hR hL => lv_iload_n hC.1 hC.2.1 hd hj (lv_at hL i hl) (kk p e R s m args below meth c hC hr Z k9 H locs ls hR hL)
theorem BO.iconst {z : Int} (v : Int32) (hd : decode y.2.1 pc = .ok (.iconst z, 1)) (hv : Int32.ofInt z = v) (kk : BO g b0 d y (pc + 1) L (.int v :: S) k n ws E) : BO g b0 d y pc L S k n ws E :=
  fun p e R s m args below meth c hC hr Z k9 H locs ls hR hL => lv_iconst hC.1 hC.2.1 hd hv (kk p e R s m args below meth c hC hr Z k9 H locs ls hR hL)
theorem BO.bipush {z : Int} (v : Int32) (hd : decode y.2.1 pc = .ok (.bipush z, 2)) (hv : (Int8.ofInt z).toInt32 = v) (kk : BO g b0 d y (pc + 2) L (.int v :: S) k n ws E) : BO g b0 d y pc L S k n ws E :=
  fun p e R s m args below meth c hC hr Z k9 H locs ls hR hL => lv_bipush hC.1 hC.2.1 hd hv (kk p e R s m args below meth c hC hr Z k9 H locs ls hR hL)
theorem BO.sipush {z : Int} (v : Int32) (hd : decode y.2.1 pc = .ok (.sipush z, 3)) (hv : (Int16.ofInt z).toInt32 = v) (kk : BO g b0 d y (pc + 3) L (.int v :: S) k n ws E) : BO g b0 d y pc L S k n ws E :=
  fun p e R s m args below meth c hC hr Z k9 H locs ls hR hL => lv_sipush hC.1 hC.2.1 hd hv (kk p e R s m args below meth c hC hr Z k9 H locs ls hR hL)
theorem BO.ldc {ix : Nat} (v : Int32) (hd : decode y.2.1 pc = .ok (.ldc ix, 2)) (hw : Cond.constant y.1.cls ix v ∈ GW) (kk : BO g b0 d y (pc + 2) L (.int v :: S) k n ws E) : BO g b0 d y pc L S k n ws E :=
  fun p e R s m args below meth c hC hr Z k9 H locs ls hR hL => lv_ldc hC.1 hC.2.1 hC.2.2.2.1 (hC.2.2.2.2.1 _ hw) hd (kk p e R s m args below meth c hC hr Z k9 H locs ls hR hL)
theorem BO.ldcw {ix : Nat} (v : Int32) (hd : decode y.2.1 pc = .ok (.ldc_w ix, 3)) (hw : Cond.constant y.1.cls ix v ∈ GW) (kk : BO g b0 d y (pc + 3) L (.int v :: S) k n ws E) : BO g b0 d y pc L S k n ws E :=
  fun p e R s m args below meth c hC hr Z k9 H locs ls hR hL => lv_ldcw hC.1 hC.2.1 hC.2.2.2.1 (hC.2.2.2.2.1 _ hw) hd (kk p e R s m args below meth c hC hr Z k9 H locs ls hR hL)
theorem BO.dup {va : Value} (hd : decode y.2.1 pc = .ok (.dup, 1)) (hva : va.category = 1) (kk : BO g b0 d y (pc + 1) L (va :: va :: S) k n ws E) : BO g b0 d y pc L (va :: S) k n ws E :=
  fun p e R s m args below meth c hC hr Z k9 H locs ls hR hL => lv_dup hC.1 hC.2.1 hd hva (kk p e R s m args below meth c hC hr Z k9 H locs ls hR hL)
theorem BO.istore_n {q : Fin 4} {j : Nat} {v : Int32} {L' : List (Nat × Value)} (hd : decode y.2.1 pc = .ok (.istore_n q, 1)) (hj : (q : Nat) = j) (hn : j < y.2.2.1) (hl : z_st1 j (.int v) L = L') (kk : BO g b0 d y (pc + 1) L' S k n ws E) : BO g b0 d y pc L (.int v :: S) k n ws E :=
  fun p e R s m args below meth c hC hr Z k9 H locs ls hR hL => lv_istore_n hC.1 hC.2.1 hd hj hL hn hl (fun ls hL => kk p e R s m args below meth c hC hr Z k9 H locs ls hR hL)
theorem BO.istore {j : Nat} {v : Int32} {L' : List (Nat × Value)} (hd : decode y.2.1 pc = .ok (.istore j, 2)) (hn : j < y.2.2.1) (hl : z_st1 j (.int v) L = L') (kk : BO g b0 d y (pc + 2) L' S k n ws E) : BO g b0 d y pc L (.int v :: S) k n ws E :=
  fun p e R s m args below meth c hC hr Z k9 H locs ls hR hL => lv_istore hC.1 hC.2.1 hd hL hn hl (fun ls hL => kk p e R s m args below meth c hC hr Z k9 H locs ls hR hL)
theorem BO.astore_n {q : Fin 4} {j v : Nat} {L' : List (Nat × Value)} (hd : decode y.2.1 pc = .ok (.astore_n q, 1)) (hj : (q : Nat) = j) (hn : j < y.2.2.1) (hl : z_st1 j (.ref v) L = L') (kk : BO g b0 d y (pc + 1) L' S k n ws E) : BO g b0 d y pc L (.ref v :: S) k n ws E :=
  fun p e R s m args below meth c hC hr Z k9 H locs ls hR hL => lv_astore_n hC.1 hC.2.1 hd hj hL hn hl (fun ls hL => kk p e R s m args below meth c hC hr Z k9 H locs ls hR hL)
theorem BO.iinc {j i : Nat} {z : Int} {x : Int32} (v : Int32) {L' : List (Nat × Value)} (hd : decode y.2.1 pc = .ok (.iinc j z, 3)) (hi : L[i]? = some (j, .int x)) (hv : x + Int32.ofInt z = v) (hn : j < y.2.2.1) (hl : z_st1 j (.int v) L = L') (kk : BO g b0 d y (pc + 3) L' S k n ws E) : BO g b0 d y pc L S k n ws E :=
  fun p e R s m args below meth c hC hr Z k9 H locs ls hR hL => lv_iinc (k := i) hC.1 hC.2.1 hd hL hi hv hn hl (fun ls hL => kk p e R s m args below meth c hC hr Z k9 H locs ls hR hL)
theorem BO.goto {off : Int} (tgt : Nat) (hd : decode y.2.1 pc = .ok (.goto off, 3)) (ht : (pc : Int) + off = (tgt : Int)) (kk : BO g b0 d y tgt L S k n ws E) : BO g b0 d y pc L S k n ws E :=
  fun p e R s m args below meth c hC hr Z k9 H locs ls hR hL => lv_goto hC.1 hC.2.1 hd ht (kk p e R s m args below meth c hC hr Z k9 H locs ls hR hL)
theorem BO.geT {xx yy : Int32} {off : Int} (tgt : Nat) (hd : decode y.2.1 pc = .ok (.if_icmp .ge off, 3)) (ht : (pc : Int) + off = (tgt : Int)) (hc : yy ≤ xx) (kk : BO g b0 d y tgt L S k n ws E) : BO g b0 d y pc L (.int yy :: .int xx :: S) k n ws E :=
  fun p e R s m args below meth c hC hr Z k9 H locs ls hR hL => lv_icmp_ge hC.1 hC.2.1 hd ht (fun _ => kk p e R s m args below meth c hC hr Z k9 H locs ls hR hL) (fun q => absurd hc q)
theorem BO.geF {xx yy : Int32} {off : Int} (tgt : Nat) (hd : decode y.2.1 pc = .ok (.if_icmp .ge off, 3)) (ht : (pc : Int) + off = (tgt : Int)) (hc : ¬ yy ≤ xx) (kk : BO g b0 d y (pc + 3) L S k n ws E) : BO g b0 d y pc L (.int yy :: .int xx :: S) k n ws E :=
  fun p e R s m args below meth c hC hr Z k9 H locs ls hR hL => lv_icmp_ge hC.1 hC.2.1 hd ht (fun q => absurd q hc) (fun _ => kk p e R s m args below meth c hC hr Z k9 H locs ls hR hL)
/-- a cell more -/
theorem BR.push {s : State} {H H1 : Heap} {locs : List Loc} {e : va_E} (hR : BR g b0 s ws H locs) (z1 : H1.size = H.size + 1) (o1 : ∀ q : Nat, q < H.size → H1[q]? = H[q]?) (he : va_at g.2.1 z_cls (b0 + ws.length, e) H1) : BR g b0 s (ws ++ [e]) H1 locs := by
  obtain ⟨hP, hz, hS⟩ := hR
  refine ⟨?_, by rw [z1, hz, List.length_append]; rfl, Nat.le_trans hS.1 (by omega), fun x h1 h2 => (o1 x (Nat.lt_of_lt_of_le h1 hS.1)).trans (hS.2.1 x h1 h2), hS.2.2⟩
  rw [bW_app]
  refine (hP.kept (fun k x hx => o1 x.1 (by rw [hz]; exact bW_lt hx))).app (fun k x hx => ?_)
  have hk : k < 1 := (List.getElem?_eq_some_iff.mp hx).1
  rw [show k = 0 by omega] at hx
  cases hx
  exact he
theorem BO.new {C : String} {T : u_T} {N ci ix q : Nat} {fs : List Value} (hd : decode y.2.1 pc = .ok (.new ix, 3)) (hC0 : ZCL ci C T N) (ty : Nat → FieldType) (hty : ∀ k, k < N → parseFieldDescriptor (T k).2.2.1 = some (ty k)) (h1 : Cond.classLink y.1.cls ix C ∈ GW) (h2 : Cond.instantiable C N ∈ GW) (h3 : Cond.initialized C ∈ GW)
    (hfs : ∀ j, j < N → defaultValue (ty j) = vp_V fs j) (hk : k + 1 ≤ E.2.2.2.1) (hn : n + N ≤ E.2.2.2.2.1) (hq : b0 + ws.length = q) (kk : BO g b0 d y (pc + 3) L (.ref q :: S) (k + 1) (n + N) (ws ++ [.inr (ci, fs)]) E) : BO g b0 d y pc L S k n ws E := by
  intro p e R s m args below meth c hC hr Z k9 H locs ls hR hL
  obtain ⟨hx, hb, hml, hown, hts, hK, -, -, -, -⟩ := id hC
  obtain ⟨hc, hin, -, -, -⟩ := hC0
  have hKn := hK.1 ci _ hc
  have hqz : H.size = q := by rw [hR.2.1, hq]
  refine W.newcK hx hb hown (hts _ h1) (hts _ h2) (hts _ h3) rfl hd (Nat.le_trans hk hr.1) (Nat.le_trans hn hr.2) hKn.2.1 hqz fun H1 kC hkC e1 z1 o1 => ?_
  refine kk p e R s m args below meth c hC hr Z k9 H1 locs ls (hR.push (by rw [z1, hqz]) (fun x hx => o1 x (by rw [← hqz]; exact hx)) ?_) hL
  rw [hq]
  exact ⟨_, hc, (u_born ty hts hin hKn hkC e1 hty).to hfs⟩
theorem BO.newa {t0 q : Nat} {atype : ArrayType} {ty : FieldType} {z : Int32} {N : Nat} {a0 : Nat → vp_A} (hd : decode y.2.1 pc = .ok (.newarray atype, 2)) (hty : newarray.typeOf atype = ty) (hpr : ∀ C, ty ≠ .object C) (h1 : Cond.arrayClass (newarray.typeOf atype) ∈ GW) (ht : (z_tys g)[t0]? = some (g.2.2.1 t0, ty)) (ha : ∀ cA : ClassId, vp_cell cA (a0 N) = arrV cA N (fun _ => defaultValue ty))
    (hz : ¬ z < 0) (hN : z.toNatClampNeg = N) (hby : N * componentBytes ty ≤ 536870912) (hk : k + 1 ≤ E.2.2.2.1) (hn : n + N ≤ E.2.2.2.2.1) (hq : b0 + ws.length = q) (kk : BO g b0 d y (pc + 2) L (.ref q :: S) (k + 1) (n + N) (ws ++ [.inl (g.2.2.1 t0, a0 N)]) E) : BO g b0 d y pc L (.int z :: S) k n ws E := by
  intro p e R s m args below meth c hC hr Z k9 H locs ls hR hL
  obtain ⟨hx, hb, hml, hown, hts, hK, -, -, -, -⟩ := id hC
  have hqz : H.size = q := by rw [hR.2.1, hq]
  subst hty
  refine va_newaK hx hb (hts _ h1) rfl hd rfl hz hN hby (Nat.le_trans hk hr.1) (Nat.le_trans hn hr.2) hqz fun H1 cA e1 z1 o1 hAr hNm => ?_
  have hA := (hK.2 t0 _ ht).2
  have hcA : cA = g.2.2.1 t0 := by
    revert hA hpr hNm
    generalize newarray.typeOf atype = ty
    intro hpr hNm hA
    cases ty with
    | object C => exact absurd rfl (hpr C)
    | _ => exact Option.some.inj (hNm.symm.trans hA)
  refine kk p e R s m args below meth c hC hr Z k9 H1 locs ls (hR.push (by rw [z1, hqz]) (fun x hx => o1 x (by rw [← hqz]; exact hx)) ?_) hL
  rw [hq]
  show H1[q]? = some (vp_cell _ _)
  rw [ha, ← hcA]
  exact e1
theorem BO.anew {t0 q ix : Nat} {C : String} {z : Int32} {N : Nat} (hd : decode y.2.1 pc = .ok (.anewarray ix, 3)) (h1 : Cond.classLink y.1.cls ix C ∈ GW) (h2 : Cond.arrayOver (.object C) ∈ tables_1) (ht : (z_tys g)[t0]? = some (g.2.2.1 t0, .object C))
    (hz : ¬ z < 0) (hN : z.toNatClampNeg = N) (hby : N * 4 ≤ 536870912) (hk : k + 1 ≤ E.2.2.2.1) (hn : n + N ≤ E.2.2.2.2.1) (hq : b0 + ws.length = q) (kk : BO g b0 d y (pc + 3) L (.ref q :: S) (k + 1) (n + N) (ws ++ [.inl (g.2.2.1 t0, N, .inr (.inr (.inr (.inr (fun _ => none)))))]) E) : BO g b0 d y pc L (.int z :: S) k n ws E := by
  intro p e R s m args below meth c hC hr Z k9 H locs ls hR hL
  obtain ⟨hx, hb, hml, hown, hts, hK, -, hX, -, -⟩ := id hC
  have hqz : H.size = q := by rw [hR.2.1, hq]
  subst hN
  refine W.anew hx hb hown (hts _ h1) (va_AO.use (hX.2 C h2)) rfl hd rfl hz hby (Nat.le_trans hk hr.1) (Nat.le_trans hn hr.2) fun cA kA comp f1 f2 f3 f4 => ?_
  obtain ⟨kA', comp', -, -, -, f5⟩ := (hK.2 t0 _ ht).2
  have hcA : cA = g.2.2.1 t0 := Option.some.inj (f1.symm.trans f5)
  generalize hH1 : H.push ({ cls := cA, slots := Array.replicate z.toNatClampNeg .null, vm := .none } : Cell) = H1
  have z1 : H1.size = H.size + 1 := by rw [← hH1, Array.size_push]
  have e1 : H1[H.size]? = some (arrV cA z.toNatClampNeg (fun _ => .null)) := by rw [← hH1, Array.getElem?_push_size, ← arrV_new]
  have o1 : ∀ q : Nat, q < H.size → H1[q]? = H[q]? := fun q hq => by rw [← hH1, Array.getElem?_push, if_neg (Nat.ne_of_lt hq)]
  rw [hqz]
  refine kk p e R s m args below meth c hC hr Z k9 H1 locs ls (hR.push z1 o1 ?_) hL
  rw [hq, ← hqz]
  show H1[H.size]? = some (vp_cell _ _)
  rw [vp_cell_q, ← hcA]
  exact e1
theorem BO.objI {ix : Nat} {a : Nat} (hd : decode y.2.1 pc = .ok (.invokespecial ix, 3)) (h1 : Cond.methodLink y.1.cls ix Lib.objectInit ∈ GW) (h2 : Cond.instanceMethod Lib.objectInit ∈ GW) (h3 : Cond.code Lib.objectInit ⟨#[0xb1]⟩ 1 none ∈ GW) (hd1 : 1 ≤ d) (kk : BO g b0 d y (pc + 3) L [] k n ws E) : BO g b0 d y pc L [.ref a] k n ws E := by
  intro p e R s m args below meth c hC hr Z k9 H locs ls hR hL
  obtain ⟨hx, hb, hml, hown, hts, -, hdd, -, -, -⟩ := id hC
  refine W.objInit hx hb hown (hts _ h1) (hts _ h2) (hts _ h3) rfl (by rw [hml]; exact hL.1) rfl hd (by omega) (by show 2 * 0 + 0 + 12 ≤ R.locals; omega) ?_
  exact kk p e R s m args below meth c hC hr Z k9 H locs ls hR hL
theorem BR.set {s : State} {H1 : Heap} {locs : List Loc} {q0 : Nat} {e : va_E} (hP : va_P g.2.1 z_cls ((bW b0 ws).set q0 (b0 + q0, e)) H1) (hz : H1.size = b0 + ws.length) (hS : va_S (fun q => b0 ≤ q) s.heap H1 locs) : BR g b0 s (ws.set q0 e) H1 locs := by
  rw [bW_set] at hP
  exact ⟨hP, by rw [hz, List.length_set], hS⟩
end Z9a
