-- the object that a constructor makes, and what it has made behind it
section Z9c
abbrev bI (g : ZG) (N : Nat) : va_E := .inl (g.2.2.1 0, N, .inl (fun _ => 0))
abbrev bJ (g : ZG) (N : Nat) : va_E := .inl (g.2.2.1 1, N, .inr (.inl (fun _ => 0)))
abbrev bZ (g : ZG) (N : Nat) : va_E := .inl (g.2.2.1 2, N, .inl (fun _ => 0))
abbrev bA (g : ZG) (t0 N : Nat) (f : Nat → Option Nat) : va_E := .inl (g.2.2.1 t0, N, .inr (.inr (.inr (.inr f))))
abbrev bO (ci : Nat) (fs : List Value) : va_E := .inr (ci, fs)
theorem sh_len {b0 h u : Nat} {P U : ZBs} {e : va_E} (hh : b0 + P.length = h) (hu : U.length = u) : b0 + (P ++ e :: U).length = h + (u + 1) := by
  rw [List.length_append, List.length_cons]; omega
theorem sh_app {P U V : ZBs} {e : va_E} : (P ++ e :: U) ++ V = P ++ e :: (U ++ V) := by simp
theorem sh_g0 {P U : ZBs} {e : va_E} : (P ++ e :: U)[P.length]? = some e := by simp
theorem sh_g1 {P U : ZBs} {e : va_E} {i : Nat} : (P ++ e :: U)[P.length + (i + 1)]? = U[i]? := by
  rw [List.getElem?_append_right (by omega), show P.length + (i + 1) - P.length = i + 1 by omega]; rfl
theorem sh_s0 {P U : ZBs} {e x : va_E} : (P ++ e :: U).set P.length x = P ++ x :: U := by simp
theorem sh_s1 {P U : ZBs} {e x : va_E} {i : Nat} : (P ++ e :: U).set (P.length + (i + 1)) x = P ++ e :: U.set i x := by
  rw [List.set_append_right _ _ (by omega), show P.length + (i + 1) - P.length = i + 1 by omega]; rfl
theorem sh_a1 {b0 h i : Nat} {P : ZBs} (hh : b0 + P.length = h) : b0 + (P.length + (i + 1)) = h + (i + 1) := by omega
/-- a class that is made -/
def BNF (own : String) (ix cj N : Nat) (gs : List Value) : Prop := ∃ (C : String) (T : u_T) (ty : Nat → FieldType), ZCL cj C T N ∧ (∀ k, k < N → parseFieldDescriptor (T k).2.2.1 = some (ty k)) ∧ Cond.classLink own ix C ∈ GW ∧ Cond.instantiable C N ∈ GW ∧ Cond.initialized C ∈ GW ∧ ∀ j, j < N → defaultValue (ty j) = vp_V gs j
def BCF (y' : ZMI) : Prop := Cond.instanceMethod y'.1 ∈ GW ∧ Cond.initialized y'.1.cls ∈ GW ∧ Cond.code y'.1 y'.2.1 y'.2.2.1 none ∈ GW ∧ y'.2.2.2 = none ∧ y'.1.name = "<init>" ∧ ((y'.1.cls ≠ "java/lang/invoke/MethodHandle" ∧ y'.1.cls ≠ "java/lang/invoke/VarHandle") ∧ (parseMethodDescriptor y'.1.desc).map (fun d => d.parameters.length) = some 0) ∧ y'.2.2.1 ≤ 21
variable {g : ZG} {b0 d h u : Nat} {y : ZMI} {pc : Nat} {L : List (Nat × Value)} {S : List Value} {k n : Nat} {E : BF} {P U : ZBs} {e : va_E}
theorem BO.sNew {ix cj N : Nat} {gs : List Value} (hd : decode y.2.1 pc = .ok (.new ix, 3)) (hf : BNF y.1.cls ix cj N gs) (hh : b0 + P.length = h) (hu : U.length = u) (hk : k + 1 ≤ E.2.2.2.1) (hn : n + N ≤ E.2.2.2.2.1)
    (kk : BO g b0 d y (pc + 3) L (.ref (h + (u + 1)) :: S) (k + 1) (n + N) (P ++ e :: (U ++ [bO cj gs])) E) : BO g b0 d y pc L S k n (P ++ e :: U) E := by
  obtain ⟨C, T, ty, h1, h2, h3, h4, h5, h6⟩ := hf
  exact BO.new hd h1 ty h2 h3 h4 h5 h6 hk hn (sh_len hh hu) (BO.weq sh_app kk)
theorem b_clI : Cond.arrayClass .int ∈ GW := gw_1 (List.mem_of_getElem? (i := 52) (by decide +kernel)) rfl
theorem b_clJ : Cond.arrayClass .long ∈ GW := gw_1 (List.mem_of_getElem? (i := 187) (by decide +kernel)) rfl
theorem b_clZ : Cond.arrayClass .boolean ∈ GW := gw_1 (List.mem_of_getElem? (i := 1570) (by decide +kernel)) rfl
theorem BO.sI {z : Int32} {N : Nat} (hd : decode y.2.1 pc = .ok (.newarray .int, 2)) (hz : ¬ z < 0) (hN : z.toNatClampNeg = N) (hby : N * 4 ≤ 536870912) (hh : b0 + P.length = h) (hu : U.length = u) (hk : k + 1 ≤ E.2.2.2.1) (hn : n + N ≤ E.2.2.2.2.1)
    (kk : BO g b0 d y (pc + 2) L (.ref (h + (u + 1)) :: S) (k + 1) (n + N) (P ++ e :: (U ++ [bI g N])) E) : BO g b0 d y pc L (.int z :: S) k n (P ++ e :: U) E :=
  BO.newa (t0 := 0) (a0 := fun N => (N, .inl (fun _ => 0))) hd rfl (fun _ h => by cases h) b_clI rfl (fun cA => rfl) hz hN hby hk hn (sh_len hh hu) (BO.weq sh_app kk)
theorem BO.sJ {z : Int32} {N : Nat} (hd : decode y.2.1 pc = .ok (.newarray .long, 2)) (hz : ¬ z < 0) (hN : z.toNatClampNeg = N) (hby : N * 8 ≤ 536870912) (hh : b0 + P.length = h) (hu : U.length = u) (hk : k + 1 ≤ E.2.2.2.1) (hn : n + N ≤ E.2.2.2.2.1)
    (kk : BO g b0 d y (pc + 2) L (.ref (h + (u + 1)) :: S) (k + 1) (n + N) (P ++ e :: (U ++ [bJ g N])) E) : BO g b0 d y pc L (.int z :: S) k n (P ++ e :: U) E :=
  BO.newa (t0 := 1) (a0 := fun N => (N, .inr (.inl (fun _ => 0)))) hd rfl (fun _ h => by cases h) b_clJ rfl (fun cA => rfl) hz hN hby hk hn (sh_len hh hu) (BO.weq sh_app kk)
theorem BO.sZ {z : Int32} {N : Nat} (hd : decode y.2.1 pc = .ok (.newarray .boolean, 2)) (hz : ¬ z < 0) (hN : z.toNatClampNeg = N) (hby : N * 1 ≤ 536870912) (hh : b0 + P.length = h) (hu : U.length = u) (hk : k + 1 ≤ E.2.2.2.1) (hn : n + N ≤ E.2.2.2.2.1)
    (kk : BO g b0 d y (pc + 2) L (.ref (h + (u + 1)) :: S) (k + 1) (n + N) (P ++ e :: (U ++ [bZ g N])) E) : BO g b0 d y pc L (.int z :: S) k n (P ++ e :: U) E :=
  BO.newa (t0 := 2) (a0 := fun N => (N, .inl (fun _ => 0))) hd rfl (fun _ h => by cases h) b_clZ rfl (fun cA => rfl) hz hN hby hk hn (sh_len hh hu) (BO.weq sh_app kk)
theorem BO.sA {z : Int32} {N ix t0 : Nat} {C : String} (hd : decode y.2.1 pc = .ok (.anewarray ix, 3)) (h1 : Cond.classLink y.1.cls ix C ∈ GW) (h2 : Cond.arrayOver (.object C) ∈ tables_1) (ht : ∀ g : ZG, (z_tys g)[t0]? = some (g.2.2.1 t0, .object C)) (hz : ¬ z < 0) (hN : z.toNatClampNeg = N) (hby : N * 4 ≤ 536870912) (hh : b0 + P.length = h) (hu : U.length = u) (hk : k + 1 ≤ E.2.2.2.1) (hn : n + N ≤ E.2.2.2.2.1)
    (kk : BO g b0 d y (pc + 3) L (.ref (h + (u + 1)) :: S) (k + 1) (n + N) (P ++ e :: (U ++ [bA g t0 N (fun _ => none)])) E) : BO g b0 d y pc L (.int z :: S) k n (P ++ e :: U) E :=
  BO.anew hd h1 h2 (ht g) hz hN hby hk hn (sh_len hh hu) (BO.weq sh_app kk)
theorem BO.sPF {ix ci j : Nat} {fs fs' : List Value} {ty : FieldType} {v : Value} (hd : decode y.2.1 pc = .ok (.putfield ix, 3)) (hf : BFF y.1.cls ix ci j ty) (hi : y.1.name = "<init>") (hn : narrow ty v = v) (hfit : fits ty v = true) (hl : j < fs.length) (hh : b0 + P.length = h) (hs : fs.set j v = fs')
    (kk : BO g b0 d y (pc + 3) L S k n (P ++ bO ci fs' :: U) E) : BO g b0 d y pc L (v :: .ref h :: S) k n (P ++ bO ci fs :: U) E :=
  BO.putF hd hf hi sh_g0 hh hn hfit hl (BO.weq (by rw [hs]; exact sh_s0) kk)
theorem BO.sP {ix ci j : Nat} {fs fs' : List Value} {ty : FieldType} {v : Value} (hd : decode y.2.1 pc = .ok (.putfield ix, 3)) (hf : ZFP y.1.cls ix ci j ty) (hn : narrow ty v = v) (hfit : fits ty v = true) (hl : j < fs.length) (hh : b0 + P.length = h) (hs : fs.set j v = fs')
    (kk : BO g b0 d y (pc + 3) L S k n (P ++ bO ci fs' :: U) E) : BO g b0 d y pc L (v :: .ref h :: S) k n (P ++ bO ci fs :: U) E :=
  BO.put hd hf sh_g0 hh hn hfit hl (BO.weq (by rw [hs]; exact sh_s0) kk)
theorem BO.sG {ix ci j : Nat} {fs : List Value} {v : Value} (hd : decode y.2.1 pc = .ok (.getfield ix, 3)) (hf : ZFL y.1.cls ix ci j) (hh : b0 + P.length = h) (hv : fs[j]? = some v)
    (kk : BO g b0 d y (pc + 3) L (v :: S) k n (P ++ bO ci fs :: U) E) : BO g b0 d y pc L (.ref h :: S) k n (P ++ bO ci fs :: U) E :=
  BO.get hd hf sh_g0 hh hv kk
theorem BO.sIs {i N : Nat} {f : Nat → Int32} {z x : Int32} (hd : decode y.2.1 pc = .ok (.iastore, 1)) (hU : U[i]? = some (.inl (g.2.2.1 0, N, .inl f))) (hh : b0 + P.length = h) (hin : vp_in z N)
    (kk : BO g b0 d y (pc + 1) L S k n (P ++ e :: U.set i (.inl (g.2.2.1 0, N, .inl (upd f z.toNatClampNeg x)))) E) : BO g b0 d y pc L (.int x :: .int z :: .ref (h + (i + 1)) :: S) k n (P ++ e :: U) E :=
  BO.iast hd (sh_g1.trans hU) (sh_a1 hh) hin (BO.weq sh_s1 kk)
theorem BO.sAs {i w cj t0 N : Nat} {r : vw_C} {vs : List Value} {f : Nat → Option Nat} {z : Int32} {U' : ZBs} (hd : decode y.2.1 pc = .ok (.aastore, 1)) (hU : U[i]? = some (bA g t0 N f)) (hV : U[w]? = some (bO cj vs)) (ht : ∀ g : ZG, (z_tys g)[t0]? = some (g.2.2.1 t0, .object r.1)) (hc : z_cls[cj]? = some r) (hh : b0 + P.length = h) (hin : vp_in z N) (hs : U.set i (bA g t0 N (va_up f z.toNatClampNeg (some (h + (w + 1))))) = U')
    (kk : BO g b0 d y (pc + 1) L S k n (P ++ e :: U') E) : BO g b0 d y pc L (.ref (h + (w + 1)) :: .int z :: .ref (h + (i + 1)) :: S) k n (P ++ e :: U) E :=
  BO.aast hd (sh_g1.trans hU) (sh_a1 hh) (ht g) hc (sh_g1.trans hV) (sh_a1 hh) hin (BO.weq (by rw [← hs]; exact sh_s1) kk)
theorem BO.sCN {y' : ZMI} {ix d' cj mc ms : Nat} {gs : List Value} {blk : Nat → ZBs} (hd : decode y.2.1 pc = .ok (.invokespecial ix, 3)) (hM : BM g b0 d' y' cj gs blk mc ms) (hl : Cond.methodLinkNest y.1.cls ix y'.1 "BesideAnother" ∈ tables_1) (hf : BCF y') (hdd : d' < d) (hh : b0 + P.length = h) (hu : U.length = u) (hcat : (S.map fun v => v.category).sum ≤ 8) (hk : k + mc ≤ E.2.2.2.1) (hn : n + ms ≤ E.2.2.2.2.1)
    (kk : BO g b0 d y (pc + 3) L S (k + mc) (n + ms) (P ++ e :: (U ++ blk (h + (u + 1)))) E) : BO g b0 d y pc L (.ref (h + (u + 1)) :: S) k n (P ++ e :: (U ++ [bO cj gs])) E := by
  obtain ⟨h2, h3, h4, h5, h6, h7, h8⟩ := hf
  exact BO.callN (P := P ++ e :: U) hd hM hl h2 h3 h4 h5 h6 h7 h8 hdd sh_app.symm (sh_len hh hu) hcat hk hn (BO.weq sh_app kk)
theorem BO.sCD {y' : ZMI} {ix d' cj mc ms : Nat} {gs : List Value} {blk : Nat → ZBs} (hd : decode y.2.1 pc = .ok (.invokespecial ix, 3)) (hM : BM g b0 d' y' cj gs blk mc ms) (hl : Cond.methodLink y.1.cls ix y'.1 ∈ GW) (hf : BCF y') (hdd : d' < d) (hh : b0 + P.length = h) (hu : U.length = u) (hcat : (S.map fun v => v.category).sum ≤ 8) (hk : k + mc ≤ E.2.2.2.1) (hn : n + ms ≤ E.2.2.2.2.1)
    (kk : BO g b0 d y (pc + 3) L S (k + mc) (n + ms) (P ++ e :: (U ++ blk (h + (u + 1)))) E) : BO g b0 d y pc L (.ref (h + (u + 1)) :: S) k n (P ++ e :: (U ++ [bO cj gs])) E := by
  obtain ⟨h2, h3, h4, h5, h6, h7, h8⟩ := hf
  exact BO.callD (P := P ++ e :: U) hd hM hl h2 h3 h4 h5 h6 h7 h8 hdd sh_app.symm (sh_len hh hu) hcat hk hn (BO.weq sh_app kk)
theorem b_oi2 : Cond.instanceMethod Lib.objectInit ∈ GW := gw_1 (List.mem_of_getElem? (i := 28) (by decide +kernel)) (by decide +kernel)
theorem b_oi3 : Cond.code Lib.objectInit ⟨#[0xb1]⟩ 1 none ∈ GW := gw_1 (List.mem_of_getElem? (i := 29) (by decide +kernel)) (by decide +kernel)
-- what each constructor leaves
abbrev bRoom (g : ZG) : va_E := .inl (g.2.2.1 0, 3, .inl (upd (upd (upd (fun _ => 0) (Int32.toNatClampNeg 0) 3) (Int32.toNatClampNeg 1) 3) (Int32.toNatClampNeg 2) 3))
def kE (g : ZG) (h : Nat) : ZBs := bO 1 [.ref (h + 1), .ref (h + 2), .int 0] :: [bI g 60, bI g 60]
def kR (_ : ZG) (_ : Nat) : ZBs := bO 3 [.int 0, .int 0, .int 0, .int 0] :: []
def kV (_ : ZG) (_ : Nat) : ZBs := bO 5 [.int 0, .int 0, .int 0, .int 0, .int 0] :: []
def kB (g : ZG) (h : Nat) : ZBs := bO 0 [.ref (h + 1), .ref (h + 4), .int 0, .int 99, .int 0, .int 0] :: (kE g (h + 1) ++ kE g (h + 4))
def kP (g : ZG) (h : Nat) : ZBs := bO 7 [.ref (h + 1), .ref (h + 4), .int 0, .int 0, .ref (h + 7), .ref (h + 1), .int 0, .int 0] :: (kE g (h + 1) ++ kE g (h + 4) ++ [bI g 80])
def kK (g : ZG) (h : Nat) : ZBs := bO 2 [.int 0, .long 0, .int 0, .int 0, .int 0, .ref (h + 1), .ref (h + 2), .ref (h + 3), .ref (h + 4)] :: [bI g 60, bI g 12, bI g 6, bI g 6]
def kS (g : ZG) (h : Nat) : ZBs := bO 4 [.ref (h + 1), .ref (h + 2), .ref (h + 3), .ref (h + 4), .ref (h + 5), .int 0, .ref (h + 6), .ref (h + 7), .ref (h + 8), .ref (h + 9)] :: [bJ g 5000, bI g 5000, bI g 5000, bI g 5000, bI g 5000, bI g 16384, bI g 5000, bI g 5001, bI g 180000]
def tF (h : Nat) : Nat → (Nat → Option Nat)
  | 0 => fun _ => none
  | i + 1 => va_up (tF h i) (nI i).toNatClampNeg (some (h + (4 + 7 * i + 1)))
def tB (g : ZG) (h : Nat) : Nat → ZBs
  | 0 => []
  | i + 1 => tB g h i ++ kB g (h + (4 + 7 * i + 1))
theorem tB_len (g : ZG) (h : Nat) : ∀ i, (tB g h i).length = 7 * i
  | 0 => rfl
  | i + 1 => by
    show (tB g h i ++ kB g _).length = _
    rw [List.length_append, tB_len g h i]
    show 7 * i + 7 = _
    omega
def kT (g : ZG) (h : Nat) : ZBs := bO 6 [.ref (h + 1), .ref (h + 2), .int 0, .ref (h + 3), .ref (h + 4), .int 1] :: (bA g 3 12 (tF h 12) :: ([bRoom g, bI g 12288, bI g 12288] ++ tB g h 12))
def xRf (h : Nat) : Nat → (Nat → Option Nat)
  | 0 => fun _ => none
  | i + 1 => va_up (xRf h i) (nI i).toNatClampNeg (some (h + (120 + i + 1)))
def xRb (g : ZG) (h : Nat) : Nat → ZBs
  | 0 => []
  | i + 1 => xRb g h i ++ kR g (h + (120 + i + 1))
theorem xRb_len (g : ZG) (h : Nat) : ∀ i, (xRb g h i).length = i
  | 0 => rfl
  | i + 1 => by
    show (xRb g h i ++ kR g _).length = _
    rw [List.length_append, xRb_len g h i]
    rfl
def xKf (h : Nat) : Nat → (Nat → Option Nat)
  | 0 => fun _ => none
  | i + 1 => va_up (xKf h i) (nI i).toNatClampNeg (some (h + (126 + 5 * i + 1)))
def xKb (g : ZG) (h : Nat) : Nat → ZBs
  | 0 => []
  | i + 1 => xKb g h i ++ kK g (h + (126 + 5 * i + 1))
theorem xKb_len (g : ZG) (h : Nat) : ∀ i, (xKb g h i).length = 5 * i
  | 0 => rfl
  | i + 1 => by
    show (xKb g h i ++ kK g _).length = _
    rw [List.length_append, xKb_len g h i]
    show 5 * i + 5 = _
    omega
def xPre (g : ZG) (h : Nat) : ZBs := kP g (h + 1) ++ kT g (h + 9) ++ kS g (h + 98) ++ kV g (h + 108) ++ kE g (h + 109)
theorem kT_len (g : ZG) (h : Nat) : (kT g h).length = 89 := by
  show (bO 6 _ :: (bA g 3 12 (tF h 12) :: ([bRoom g, bI g 12288, bI g 12288] ++ tB g h 12))).length = 89
  rw [List.length_cons, List.length_cons, List.length_append, tB_len]
  rfl
theorem xPre_len (g : ZG) (h : Nat) : (xPre g h).length = 111 := by
  show (kP g (h + 1) ++ kT g (h + 9) ++ kS g (h + 98) ++ kV g (h + 108) ++ kE g (h + 109)).length = 111
  simp only [List.length_append]
  rw [kT_len]
  rfl
def xArr (g : ZG) : ZBs := [bI g 60, bI g 12, bI g 6, bI g 6, bI g 12, bI g 12, bI g 13]
def kX (g : ZG) (h : Nat) : ZBs := bO 8 [.ref (h + 1), .ref (h + 9), .ref (h + 98), .ref (h + 108), .ref (h + 109), .ref (h + 112), .ref (h + 113), .int 0, .long 0, .int 0, .ref (h + 114), .int 0, .ref (h + 115), .int 0, .ref (h + 116), .ref (h + 117), .ref (h + 118), .ref (h + 119), .ref (h + 120)] ::
  (xPre g h ++ (bA g 4 6 (xRf h 6) :: bA g 5 3 (xKf h 3) :: (xArr g ++ xRb g h 6 ++ xKb g h 3)))
end Z9c
