-- THE WALK OVER THE STORE: ZW says of a frame, its locals, its stack and the store how its method ends
section ZWs
/-- the law's script, what may still be made; what has been made (cells, slots) -/
abbrev ZU : Type := (Option (Nat × (Nat → Int32)) × Nat × Nat × List (Nat × Nat × Nat × Nat)) × Nat × Nat
abbrev zu0 : ZU := ((none, 0, 0, []), 0, 0)
/-- the texts that among() is asked of: their places in the pool, their signs -/
def z_tx : List (Nat × String × List Int32) := [(80, "abcdefghijklnrt", [97, 98, 99, 100, 101, 102, 103, 104, 105, 106, 107, 108, 110, 114, 116]), (86, "(", [40]), (104, "|", [124]), (106, "&", [38]), (108, "<>=", [60, 62, 61]), (110, "+-", [43, 45])]
def z_tl : List Nat := z_tx.map (fun q => q.2.2.length)
def z_tb : List (List Int32) := z_tx.map (fun q => q.2.2)
/-- what else holds in every state of the run: nest mates' links, the texts -/
def z_ts : List (Nat × String) := [(161, "no such book"), (176, "nothing such is told of a book"), (181, "no such book or table"), (249, "no such reader"), (257, "nothing such is told of a reader"), (413, "the row has no such number")]
def ZX (g : ZG) (s : State) : Prop := (∀ own ix x h, Cond.methodLinkNest own ix x h ∈ tables_1 → va_Nw (.methodLinkNest own ix x h) s) ∧
  (∀ x, Cond.declares x ∈ tables_1 → va_Nw (.declares x) s) ∧
  (∀ a b, Cond.castable a b ∈ tables_1 → va_Nw (.castable a b) s) ∧
  vk_S 6 z_tl z_tb (fun i => g.2.2.2 (700 + i)) (fun i => g.2.2.2 (720 + i)) (z_A g s.heap.size) s s.heap ∧
  (∀ (i : Nat) q, z_tx[i]? = some q → vk_R z_R9 q.1 q.2.1 (g.2.2.2 (700 + i)) s) ∧
  (∀ (i : Nat) q, z_ts[i]? = some q → vk_R z_R8 q.1 q.2 (g.2.2.2 (740 + i)) s) ∧
  va_Z "java/lang/String" "COMPACT_STRINGS" "Z" (.int 1) (z_A g s.heap.size) s s.heap ∧
  (∃ v : Value, (v = .null ∨ v = .ref 760) ∧ va_Z "jdk/internal/util/Preconditions" "SIOOBE_FORMATTER" "Ljava/util/function/BiFunction;" (z_v g v) (z_A g s.heap.size) s s.heap) ∧
  vx_Zq Bundle.tN "UNASSIGNED_STACK" Bundle.steD (z_A g s.heap.size) s s.heap ∧ vx_Zq Bundle.tN "SUPPRESSED_SENTINEL" Bundle.listD (z_A g s.heap.size) s s.heap ∧
  g.1.stackTraces = false
theorem z_castW {a b : String} {s U : State} (h : s.vm.Alike U.vm) (hh : va_Nw (.castable a b) s) : va_Nw (.castable a b) U := by
  refine va_tabs (u := s.setVm U.vm) rfl (A := #[]) rfl ?_
  have hh : (Cond.castable a b).before #[] s = true := hh
  simp only [Cond.before, Cond.holds, Cond.value] at hh ⊢
  have e1 : (s.setVm U.vm).vm.findClass a = s.vm.findClass a := h.findClass ..
  have e2 : (s.setVm U.vm).vm.findClass b = s.vm.findClass b := h.findClass ..
  rw [e1, e2]
  cases ha : s.vm.findClass a with
  | none => simp [ha] at hh
  | some x =>
    cases hb : s.vm.findClass b with
    | none => simp [ha, hb] at hh
    | some y =>
      have e3 : (s.setVm U.vm).vm.assignable x y = s.vm.assignable x y := h.assignable ..
      simp only [ha, hb] at hh ⊢
      rw [e3]; exact hh
theorem ZX.on {g : ZG} {s U : State} {H : Heap} {locs : List Loc} (h : ZX g s) (hS : va_S (z_A g s.heap.size) s.heap H locs) (hU : U.heap = H) (hW : s.WarmedH U.vm) : ZX g U := by
  obtain ⟨h1, hd, hc, h2, h3, h3b, h4, ⟨v, hv, h5⟩, h6, h7, h8⟩ := h
  have hk : ∀ a : Nat, a < s.heap.size → ¬ z_A g s.heap.size a → H[a]? = s.heap[a]? := fun a ha hn => hS.2.1 a ha hn
  have hn : ∀ q, z_A g U.heap.size q → z_A g s.heap.size q := fun q hq => by
    rcases hq with hq | hq
    · exact Or.inl hq
    · exact Or.inr (Nat.le_trans hS.1 (by rw [← hU]; exact hq))
  have e : U.heap = H := hU
  refine ⟨fun own ix x hh hm => va_Nw.warmM hW (h1 own ix x hh hm), fun x hm => va_Nw.warmD hW (hd x hm), fun a b hm => z_castW hW.alike (hc a b hm), ?_, fun i q hq => (h3 i q hq).warm hW, fun i q hq => (h3b i q hq).warm hW, ?_, ⟨v, hv, ?_⟩, ?_, ?_, h8⟩
  · have q := ((h2.moved hW.alike).kept hk).narrow hn
    rw [← e] at q; exact q
  · have q := ((h4.moved hW.alike).kept hk).narrow hn
    rw [← e] at q; exact q
  · have q := ((h5.moved hW.alike).kept hk).narrow hn
    rw [← e] at q; exact q
  · have q := ((h6.moved hW.alike).kept hk).narrow hn
    rw [← e] at q; exact q
  · have q := ((h7.moved hW.alike).kept hk).narrow hn
    rw [← e] at q; exact q
theorem ZX.blind {g : ZG} {U : State} (h : ZX g U) (g' : JFrame) (mk : MethodId) (a : Array Value) : ZX g (U.calling g' mk a) := by
  obtain ⟨h1, hd, hc, h2, h3, h3b, h4, ⟨v, hv, h5⟩, h6, h7, h8⟩ := h
  have al : U.vm.Alike (U.calling g' mk a).vm := Vm.Alike.refl U.vm
  exact ⟨fun own ix x h hm => va_Nw.same (u := U) rfl rfl (h1 own ix x h hm), fun x hm => va_Nw.same (u := U) rfl rfl (hd x hm), fun x y hm => va_Nw.same (u := U) rfl rfl (hc x y hm), h2.moved (u := U) al, fun i q hq => vk_R.same (u := U) rfl (h3 i q hq), fun i q hq => vk_R.same (u := U) rfl (h3b i q hq), h4.moved (u := U) al, ⟨v, hv, h5.moved (u := U) al⟩, h6.moved (u := U) al, h7.moved (u := U) al, h8⟩
def ZC (g : ZG) (d : Nat) (y : ZMI) (u : ZU) (p : Program) (R : Room) (s : State) (m : MethodId) (args : Array Value) (meth : Method) (c : Code) : Prop :=
  p.tables.exec = Jvm.exec ∧ c.code = y.2.1 ∧ c.maxLocals = y.2.2.1 ∧ s.vm.findClass y.1.cls = some m.cls ∧ (∀ w ∈ GW, w.before args s = true) ∧ meth.locks = false ∧ va_K g.2.1 z_cls (z_tys g) s ∧ (d ≤ R.frames ∧ 40 * d ≤ R.locals ∧ u.2.1 + u.1.2.1 ≤ R.cells ∧ u.2.2 + u.1.2.2.1 ≤ R.slots) ∧ ZX g s ∧ c.exceptionTable.toList = tableOf u.1.2.2.2 ∧
  ∀ L xs, u.1.1 = some (L, xs) → va_X (g.2.2.2 600) L xs s s.heap ∧ g.2.2.2 600 < s.heap.size ∧ ¬ z_A g s.heap.size (g.2.2.2 600)
def ZR (g : ZG) (s : State) (σ : ZSt) (H : Heap) (locs : List Loc) : Prop :=
  va_P g.2.1 z_cls (z_wl g σ) H ∧ va_D (z_A g s.heap.size) (z_wl g σ) ∧ va_S (z_A g s.heap.size) s.heap H locs
def z_vl (g : ZG) (L : List (Nat × Value)) : List (Nat × Value) := L.map (fun q => (q.1, z_v g q.2))
def ZL (g : ZG) (y : ZMI) (L : List (Nat × Value)) (ls : Array Slot) : Prop := lv_has ls y.2.2.1 (z_vl g L)
/-- what is known of the method's end, with k cells and n slots made -/
def ZEk (g : ZG) (y : ZMI) (k n : Nat) (p : Program) (e : Env) (R : Room) (s : State) (m : MethodId) (args : Array Value) (below : List Frame) (meth : Method) (c : Code) (Z : State → Prop) (Q : Option Value → ZSt → Prop) (QT : Nat → ZSt → Prop) : Prop :=
  (∀ pc H locs ls σ (v : Int32) ty, decode y.2.1 pc = .ok (.ireturn, 1) → y.2.2.2 = some ty → narrow ty (.int v) = .int v → ZR g s σ H locs → Q (some (.int v)) σ → W p g.1 e R s m args below meth c H locs k n Z (F0 m pc ls [.int v])) ∧
  (∀ pc H locs ls σ (v : Int64), decode y.2.1 pc = .ok (.lreturn, 1) → y.2.2.2 = some .long → ZR g s σ H locs → Q (some (.long v)) σ → W p g.1 e R s m args below meth c H locs k n Z (F0 m pc ls [.long v])) ∧
  (∀ pc H locs ls σ (v : Nat) C, decode y.2.1 pc = .ok (.areturn, 1) → y.2.2.2 = some (.object C) → ZR g s σ H locs → Q (some (.ref v)) σ → W p g.1 e R s m args below meth c H locs k n Z (F0 m pc ls [.ref (g.2.2.2 v)])) ∧
  (∀ pc H locs ls σ, decode y.2.1 pc = .ok (.return_, 1) → y.2.2.2 = none → ZR g s σ H locs → Q none σ → W p g.1 e R s m args below meth c H locs k n Z (F0 m pc ls [])) ∧
  (∀ pc H locs ls σ, QT pc σ → ZR g s σ H locs → ls.size = y.2.2.1 → W p g.1 e R s m args below meth c H locs k n Z (F0 m pc ls []))
/-- .. however much of what may still be made has been -/
def ZE (g : ZG) (y : ZMI) (u : ZU) (p : Program) (e : Env) (R : Room) (s : State) (m : MethodId) (args : Array Value) (below : List Frame) (meth : Method) (c : Code) (Z : State → Prop) (Q : Option Value → ZSt → Prop) (QT : Nat → ZSt → Prop) : Prop :=
  ∀ k n, (u.2.1 ≤ k ∧ k ≤ u.2.1 + u.1.2.1) ∧ (u.2.2 ≤ n ∧ n ≤ u.2.2 + u.1.2.2.1) → ZEk g y k n p e R s m args below meth c Z Q QT
theorem ZE.here {g : ZG} {y : ZMI} {u : ZU} {p : Program} {e : Env} {R : Room} {s : State} {m : MethodId} {args : Array Value} {below : List Frame} {meth : Method} {c : Code} {Z : State → Prop} {Q : Option Value → ZSt → Prop} {QT : Nat → ZSt → Prop} (h : ZE g y u p e R s m args below meth c Z Q QT) : ZEk g y u.2.1 u.2.2 p e R s m args below meth c Z Q QT := h _ _ ⟨⟨Nat.le_refl _, Nat.le_add_right _ _⟩, Nat.le_refl _, Nat.le_add_right _ _⟩
def ZW (g : ZG) (d : Nat) (y : ZMI) (u : ZU) (pc : Nat) (L : List (Nat × Value)) (S : List Value) (σ : ZSt) (Q : Option Value → ZSt → Prop) (QT : Nat → ZSt → Prop) : Prop :=
  ∀ p e R s m args below meth c, ZC g d y u p R s m args meth c → ∀ Z, ZE g y u p e R s m args below meth c Z Q QT → ∀ H locs ls, ZR g s σ H locs → ZL g y L ls →
    W p g.1 e R s m args below meth c H locs u.2.1 u.2.2 Z (F0 m pc ls (S.map (z_v g)))
/-- the walk against a program: t's value tells the end -/
def ZO {α : Type} (g : ZG) (d : Nat) (y : ZMI) (u : ZU) (pc : Nat) (L : List (Nat × Value)) (S : List Value) (σ : ZSt) (t : Option α) (K : α → (Option (Option Value)) × ZSt × Nat) : Prop :=
  ∀ a, t = some a → ZW g d y u pc L S σ (fun r τ => (K a).1 = some r ∧ (K a).2.1 = τ) (fun q τ => (K a).1 = none ∧ (K a).2.1 = τ ∧ (K a).2.2 = q)
-- the words of programs
def lt {α : Sort _} {β : Sort _} (v : α) (f : α → β) : β := f v
def gd {β : Type} (b : Bool) (t : Option β) : Option β := if b = true then t else none
def bn {α β : Type} (t : Option α) (f : α → Option β) : Option β := t.bind f
def jn {α : Sort _} {β : Sort _} (rest : α) (f : α → β) : β := f rest
def shI (x y : Int32) : Int32 := x <<< (y &&& 31)
def srI (x y : Int32) : Int32 := x >>> (y &&& 31)
def usrI (x y : Int32) : Int32 := (x.toUInt32 >>> (y.toUInt32 &&& Int32.toUInt32 31)).toInt32
def remI (x y : Int32) : Int32 := x - x / y * y
def remL (x y : Int64) : Int64 := x - x / y * y
def shL (x : Int64) (y : Int32) : Int64 := x <<< (y.toInt64 &&& 63)
def srL (x : Int64) (y : Int32) : Int64 := x >>> (y.toInt64 &&& 63)
def usrL (x : Int64) (y : Int32) : Int64 := (x.toUInt64 >>> (y.toInt64.toUInt64 &&& Int64.toUInt64 63)).toInt64
def b2i (b : Bool) : Int32 := if b = true then 1 else 0
def inb (i : Int32) (n : Nat) : Bool := decide (0 ≤ i ∧ i.toNatClampNeg < n)
def lpN {S R : Type} (body : (S → Option R) → S → Option R) : Nat → S → Option R
  | 0 => fun _ => none
  | n + 1 => body (lpN body n)
theorem inb_vp {i : Int32} {n : Nat} (h : inb i n = true) : vp_in i n := by
  have h1 := of_decide_eq_true h
  intro q
  rcases q with q | q
  · exact absurd q (Int32.not_lt.mpr h1.1)
  · omega
variable {α : Type} {g : ZG} {d : Nat} {y : ZMI} {u : ZU} {pc : Nat} {L : List (Nat × Value)} {S : List Value} {σ : ZSt} {t : Option α} {K : α → (Option (Option Value)) × ZSt × Nat}
theorem ZO.lift {pc' : Nat} {L' : List (Nat × Value)} {S' : List Value} {σ' : ZSt}
    (h : ∀ p e R s m args below meth c, ZC g d y u p R s m args meth c → ∀ (Z : State → Prop) H locs ls, ZR g s σ H locs → ZL g y L ls →
      (∀ H' locs' ls', ZR g s σ' H' locs' → ZL g y L' ls' → W p g.1 e R s m args below meth c H' locs' u.2.1 u.2.2 Z (F0 m pc' ls' (S'.map (z_v g)))) →
      W p g.1 e R s m args below meth c H locs u.2.1 u.2.2 Z (F0 m pc ls (S.map (z_v g))))
    (k : ZO g d y u pc' L' S' σ' t K) : ZO g d y u pc L S σ t K := by
  intro a ha p e R s m args below meth c hC Z hE H locs ls hR hL
  exact h p e R s m args below meth c hC Z H locs ls hR hL (fun H' locs' ls' hR' hL' => k a ha p e R s m args below meth c hC Z hE H' locs' ls' hR' hL')
/-- a branch: two ways on -/
theorem ZO.lift2 {c0 : Prop} [Decidable c0] {t1 t2 : Option α} {pc1 pc2 : Nat} {S' : List Value}
    (h : ∀ p e R s m args below meth c, ZC g d y u p R s m args meth c → ∀ (Z : State → Prop) H locs ls,
      (c0 → W p g.1 e R s m args below meth c H locs u.2.1 u.2.2 Z (F0 m pc1 ls (S'.map (z_v g)))) →
      (¬ c0 → W p g.1 e R s m args below meth c H locs u.2.1 u.2.2 Z (F0 m pc2 ls (S'.map (z_v g)))) →
      W p g.1 e R s m args below meth c H locs u.2.1 u.2.2 Z (F0 m pc ls (S.map (z_v g))))
    (hT : t = ite c0 t1 t2) (k1 : c0 → ZO g d y u pc1 L S' σ t1 K) (k2 : ¬ c0 → ZO g d y u pc2 L S' σ t2 K) : ZO g d y u pc L S σ t K := by
  intro a ha p e R s m args below meth c hC Z hE H locs ls hR hL
  refine h p e R s m args below meth c hC Z H locs ls (fun hc => ?_) (fun hc => ?_)
  · exact k1 hc a (by rw [hT, if_pos hc] at ha; exact ha) p e R s m args below meth c hC Z hE H locs ls hR hL
  · exact k2 hc a (by rw [hT, if_neg hc] at ha; exact ha) p e R s m args below meth c hC Z hE H locs ls hR hL
theorem ZO.nn : ZO g d y u pc L S σ (none : Option α) K := fun _ h => by cases h
theorem ZO.rgd {b : Bool} (k : b = true → ZO g d y u pc L S σ t K) : ZO g d y u pc L S σ (gd b t) K := by
  intro a ha
  replace ha : (if b = true then t else none) = some a := ha
  by_cases hb : b = true
  · rw [if_pos hb] at ha
    exact k hb a ha
  · rw [if_neg hb] at ha
    cases ha
theorem ZO.eqT {t' : Option α} (h : t = t') (k : ZO g d y u pc L S σ t' K) : ZO g d y u pc L S σ t K := h ▸ k
/-- names for what is computed: the store, the top of the stack -/
theorem ZO.ltS {f : ZSt → Option α} (k : ∀ x : ZSt, ZO g d y u pc L S x (f x) K) : ZO g d y u pc L S σ (lt σ f) K := k σ
theorem ZO.ltI {v : Int32} {f : Int32 → Option α} (k : ∀ x : Int32, ZO g d y u pc L (.int x :: S) σ (f x) K) : ZO g d y u pc L (.int v :: S) σ (lt v f) K := k v
theorem ZO.ltB {v : Bool} {f : Bool → Option α} (k : ∀ x : Bool, ZO g d y u pc L (.int (b2i x) :: S) σ (f x) K) : ZO g d y u pc L (.int (b2i v) :: S) σ (lt v f) K := k v
theorem ZO.ltJ {v : Int64} {f : Int64 → Option α} (k : ∀ x : Int64, ZO g d y u pc L (.long x :: S) σ (f x) K) : ZO g d y u pc L (.long v :: S) σ (lt v f) K := k v
theorem ZO.ltA {v : Nat} {f : Nat → Option α} (k : ∀ x : Nat, ZO g d y u pc L (.ref x :: S) σ (f x) K) : ZO g d y u pc L (.ref v :: S) σ (lt v f) K := k v
/-- the locals, some of them -/
theorem ZO.sub {L' : List (Nat × Value)} (ks : List Nat) (h : ks.filterMap (fun k => L[k]?) = L') (k : ZO g d y u pc L' S σ t K) : ZO g d y u pc L S σ t K := by
  intro a ha p e R s m args below meth c hC Z hE H locs ls hR hL
  refine k a ha p e R s m args below meth c hC Z hE H locs ls hR (lv_sub hL ks ?_)
  subst h
  simp only [lv_pick, z_vl, List.getElem?_map, List.map_filterMap]
/-- a join: value forms -/
theorem ZO.phi {β : Type} {v : β} {rest : β → Option α} {pcJ : Nat} {LJ : β → List (Nat × Value)} {SJ : β → List Value}
    (J : ∀ x, ZO g d y u pcJ (LJ x) (SJ x) σ (rest x) K)
    (B : ∀ t : Option α, (∀ x, x = v → ZO g d y u pcJ (LJ x) (SJ x) σ t K) → ZO g d y u pc L S σ t K) : ZO g d y u pc L S σ (lt v rest) K := B (rest v) (fun x hx => by rw [hx]; exact J v)
/-- a join: a way on, called by each leaf -/
theorem ZO.rjn {β : Type} {rest : β → Option α} {f : (β → Option α) → Option α} {pcJ : Nat} {LJ : β → List (Nat × Value)} {SJ : β → List Value} {σJ : β → ZSt}
    (J : ∀ x, ZO g d y u pcJ (LJ x) (SJ x) (σJ x) (rest x) K)
    (B : ∀ j : β → Option α, (∀ x, ZO g d y u pcJ (LJ x) (SJ x) (σJ x) (j x) K) → ZO g d y u pc L S σ (f j) K) : ZO g d y u pc L S σ (jn rest f) K := B rest J
/-- a loop: any number of times -/
theorem ZO.loop {β : Type} {body : (β → Option α) → β → Option α} {n : Nat} {x0 : β} (LJ : β → List (Nat × Value)) (σJ : β → ZSt) (SJ : List Value)
    (B : ∀ (j : β → Option α) (x : β), (∀ x, ZO g d y u pc (LJ x) SJ (σJ x) (j x) K) → ZO g d y u pc (LJ x) SJ (σJ x) (body j x) K)
    (hL : L = LJ x0) (hS : S = SJ) (hσ : σ = σJ x0) : ZO g d y u pc L S σ (lpN body n x0) K := by
  subst hL hS hσ
  suffices h : ∀ (n : Nat) (x : β), ZO g d y u pc (LJ x) S (σJ x) (lpN body n x) K from h n x0
  intro n
  induction n with
  | zero => exact fun x => ZO.nn
  | succ n ih => exact fun x => B _ x ih
theorem z_get {g : ZG} {y : ZMI} {ls : Array Slot} (hL : ZL g y L ls) (i : Nat) {j : Nat} {v : Value} (h : L[i]? = some (j, v)) : ls[j]? = some (.val (z_v g v)) :=
  lv_at hL i (by simp [z_vl, h])
theorem z_cat (g : ZG) (v : Value) : (z_v g v).category = v.category := by cases v <;> rfl
def z_st1 (j : Nat) (v : Value) (L : List (Nat × Value)) : List (Nat × Value) := (j, v) :: L.filter (fun q => !(q.1 == j) && !(q.1 + 1 == j && q.2.category == 2))
def z_st2 (j : Nat) (v : Value) (L : List (Nat × Value)) : List (Nat × Value) := (j, v) :: L.filter (fun q => !(q.1 == j) && (!(q.1 == j + 1) && !(q.1 + 1 == j && q.2.category == 2)))
theorem z_st1_map (g : ZG) (j : Nat) (v : Value) (L : List (Nat × Value)) : (j, z_v g v) :: (z_vl g L).filter (fun q => !(q.1 == j) && !(q.1 + 1 == j && q.2.category == 2)) = z_vl g (z_st1 j v L) := by
  simp only [z_vl, z_st1, List.map_cons, List.filter_map]
  congr 2
  apply List.filter_congr
  intro q _
  simp [z_cat]
theorem z_st2_map (g : ZG) (j : Nat) (v : Value) (L : List (Nat × Value)) : (j, z_v g v) :: (z_vl g L).filter (fun q => !(q.1 == j) && (!(q.1 == j + 1) && !(q.1 + 1 == j && q.2.category == 2))) = z_vl g (z_st2 j v L) := by
  simp only [z_vl, z_st2, List.map_cons, List.filter_map]
  congr 2
  apply List.filter_congr
  intro q _
  simp [z_cat]
theorem z_sub {g : ZG} {y : ZMI} {L1 L' : List (Nat × Value)} {ls : Array Slot} (hL : lv_has ls y.2.2.1 (z_vl g L1)) (ks : List Nat) (h : ks.filterMap (fun k => L1[k]?) = L') : ZL g y L' ls := by
  refine lv_sub hL ks ?_
  subst h
  simp only [lv_pick, z_vl, List.getElem?_map, List.map_filterMap]
theorem ZO.iconst {rest : List Value} {n : Int} (v : Int32) (hd : decode y.2.1 pc = .ok (.iconst n, 1)) (hv : Int32.ofInt n = v) (k : ZO g d y u (pc + 1) L (.int v :: rest) σ t K) : ZO g d y u pc L rest σ t K := by
  refine ZO.lift (fun p e R s m args below meth c hC Z H locs ls hR hL kk => ?_) k
  obtain ⟨hx, hb, hml, hown, hts, hlk, hK, hrm, hXs, hsc⟩ := hC
  exact lv_iconst hx hb hd hv (kk H locs ls hR hL)
theorem ZO.bipush {rest : List Value} {n : Int} (v : Int32) (hd : decode y.2.1 pc = .ok (.bipush n, 2)) (hv : (Int8.ofInt n).toInt32 = v) (k : ZO g d y u (pc + 2) L (.int v :: rest) σ t K) : ZO g d y u pc L rest σ t K := by
  refine ZO.lift (fun p e R s m args below meth c hC Z H locs ls hR hL kk => ?_) k
  obtain ⟨hx, hb, hml, hown, hts, hlk, hK, hrm, hXs, hsc⟩ := hC
  exact lv_bipush hx hb hd hv (kk H locs ls hR hL)
theorem ZO.sipush {rest : List Value} {n : Int} (v : Int32) (hd : decode y.2.1 pc = .ok (.sipush n, 3)) (hv : (Int16.ofInt n).toInt32 = v) (k : ZO g d y u (pc + 3) L (.int v :: rest) σ t K) : ZO g d y u pc L rest σ t K := by
  refine ZO.lift (fun p e R s m args below meth c hC Z H locs ls hR hL kk => ?_) k
  obtain ⟨hx, hb, hml, hown, hts, hlk, hK, hrm, hXs, hsc⟩ := hC
  exact lv_sipush hx hb hd hv (kk H locs ls hR hL)
theorem ZO.lconst {rest : List Value} {n : Fin 2} (v : Int64) (hd : decode y.2.1 pc = .ok (.lconst n, 1)) (hv : Int64.ofNat (n : Nat) = v) (k : ZO g d y u (pc + 1) L (.long v :: rest) σ t K) : ZO g d y u pc L rest σ t K := by
  refine ZO.lift (fun p e R s m args below meth c hC Z H locs ls hR hL kk => ?_) k
  obtain ⟨hx, hb, hml, hown, hts, hlk, hK, hrm, hXs, hsc⟩ := hC
  exact lv_lconst hx hb hd hv (kk H locs ls hR hL)
theorem ZO.ldc {rest : List Value} {ix : Nat} (v : Int32) (hd : decode y.2.1 pc = .ok (.ldc ix, 2)) (hw : Cond.constant y.1.cls ix v ∈ GW) (k : ZO g d y u (pc + 2) L (.int v :: rest) σ t K) : ZO g d y u pc L rest σ t K := by
  refine ZO.lift (fun p e R s m args below meth c hC Z H locs ls hR hL kk => ?_) k
  obtain ⟨hx, hb, hml, hown, hts, hlk, hK, hrm, hXs, hsc⟩ := hC
  exact lv_ldc hx hb hown (hts _ (z_wsi hw)) hd (kk H locs ls hR hL)
theorem ZO.ldcw {rest : List Value} {ix : Nat} (v : Int32) (hd : decode y.2.1 pc = .ok (.ldc_w ix, 3)) (hw : Cond.constant y.1.cls ix v ∈ GW) (k : ZO g d y u (pc + 3) L (.int v :: rest) σ t K) : ZO g d y u pc L rest σ t K := by
  refine ZO.lift (fun p e R s m args below meth c hC Z H locs ls hR hL kk => ?_) k
  obtain ⟨hx, hb, hml, hown, hts, hlk, hK, hrm, hXs, hsc⟩ := hC
  exact lv_ldcw hx hb hown (hts _ (z_wsi hw)) hd (kk H locs ls hR hL)
theorem ZO.ldcS {rest : List Value} {ix i : Nat} {tx : String} {bs : List Int32} (hy : y.1.cls = z_R9) (hd : decode y.2.1 pc = .ok (.ldc ix, 2)) (hw : z_tx[i]? = some (ix, tx, bs)) (k : ZO g d y u (pc + 2) L (.ref (700 + i) :: rest) σ t K) : ZO g d y u pc L rest σ t K := by
  refine ZO.lift (fun p e R s m args below meth c hC Z H locs ls hR hL kk => ?_) k
  obtain ⟨hx, hb, hml, hown, hts, hlk, hK, hrm, hXs, hsc⟩ := hC
  exact va_ldcS hx hb hown (by rw [hy]; exact hXs.2.2.2.2.1 i _ hw) hd (kk H locs ls hR hL)
theorem ZO.ldc2 {rest : List Value} {ix : Nat} (v : Int64) (hd : decode y.2.1 pc = .ok (.ldc2_w ix, 3)) (hw : Cond.constantLong y.1.cls ix v ∈ GW) (k : ZO g d y u (pc + 3) L (.long v :: rest) σ t K) : ZO g d y u pc L rest σ t K := by
  refine ZO.lift (fun p e R s m args below meth c hC Z H locs ls hR hL kk => ?_) k
  obtain ⟨hx, hb, hml, hown, hts, hlk, hK, hrm, hXs, hsc⟩ := hC
  exact lv_ldc2 hx hb hown (hts _ (z_wsi hw)) hd (kk H locs ls hR hL)
theorem ZO.iload {rest : List Value} {j : Nat} {v : Int32} (i : Nat) (hd : decode y.2.1 pc = .ok (.iload j, 2)) (hl : L[i]? = some (j, .int v)) (k : ZO g d y u (pc + 2) L (.int v :: rest) σ t K) : ZO g d y u pc L rest σ t K := by
  refine ZO.lift (fun p e R s m args below meth c hC Z H locs ls hR hL kk => ?_) k
  obtain ⟨hx, hb, hml, hown, hts, hlk, hK, hrm, hXs, hsc⟩ := hC
  exact lv_iload hx hb hd (z_get hL i hl) (kk H locs ls hR hL)
theorem ZO.iload_n {rest : List Value} {q : Fin 4} {j : Nat} {v : Int32} (i : Nat) (hd : decode y.2.1 pc = .ok (.iload_n q, 1)) (hj : (q : Nat) = j) (hl : L[i]? = some (j, .int v)) (k : ZO g d y u (pc + 1) L (.int v :: rest) σ t K) : ZO g d y u pc L rest σ t K := by
  refine ZO.lift (fun p e R s m args below meth c hC Z H locs ls hR hL kk => ?_) k
  obtain ⟨hx, hb, hml, hown, hts, hlk, hK, hrm, hXs, hsc⟩ := hC
  exact lv_iload_n hx hb hd hj (z_get hL i hl) (kk H locs ls hR hL)
theorem ZO.lload {rest : List Value} {j : Nat} {v : Int64} (i : Nat) (hd : decode y.2.1 pc = .ok (.lload j, 2)) (hl : L[i]? = some (j, .long v)) (k : ZO g d y u (pc + 2) L (.long v :: rest) σ t K) : ZO g d y u pc L rest σ t K := by
  refine ZO.lift (fun p e R s m args below meth c hC Z H locs ls hR hL kk => ?_) k
  obtain ⟨hx, hb, hml, hown, hts, hlk, hK, hrm, hXs, hsc⟩ := hC
  exact lv_lload hx hb hd (z_get hL i hl) (kk H locs ls hR hL)
theorem ZO.lload_n {rest : List Value} {q : Fin 4} {j : Nat} {v : Int64} (i : Nat) (hd : decode y.2.1 pc = .ok (.lload_n q, 1)) (hj : (q : Nat) = j) (hl : L[i]? = some (j, .long v)) (k : ZO g d y u (pc + 1) L (.long v :: rest) σ t K) : ZO g d y u pc L rest σ t K := by
  refine ZO.lift (fun p e R s m args below meth c hC Z H locs ls hR hL kk => ?_) k
  obtain ⟨hx, hb, hml, hown, hts, hlk, hK, hrm, hXs, hsc⟩ := hC
  exact lv_lload_n hx hb hd hj (z_get hL i hl) (kk H locs ls hR hL)
theorem ZO.aload {rest : List Value} {j : Nat} {v : Nat} (i : Nat) (hd : decode y.2.1 pc = .ok (.aload j, 2)) (hl : L[i]? = some (j, .ref v)) (k : ZO g d y u (pc + 2) L (.ref v :: rest) σ t K) : ZO g d y u pc L rest σ t K := by
  refine ZO.lift (fun p e R s m args below meth c hC Z H locs ls hR hL kk => ?_) k
  obtain ⟨hx, hb, hml, hown, hts, hlk, hK, hrm, hXs, hsc⟩ := hC
  exact lv_aload hx hb hd (z_get hL i hl) (kk H locs ls hR hL)
theorem ZO.aload_n {rest : List Value} {q : Fin 4} {j : Nat} {v : Nat} (i : Nat) (hd : decode y.2.1 pc = .ok (.aload_n q, 1)) (hj : (q : Nat) = j) (hl : L[i]? = some (j, .ref v)) (k : ZO g d y u (pc + 1) L (.ref v :: rest) σ t K) : ZO g d y u pc L rest σ t K := by
  refine ZO.lift (fun p e R s m args below meth c hC Z H locs ls hR hL kk => ?_) k
  obtain ⟨hx, hb, hml, hown, hts, hlk, hK, hrm, hXs, hsc⟩ := hC
  exact lv_aload_n hx hb hd hj (z_get hL i hl) (kk H locs ls hR hL)
theorem ZO.istore {rest : List Value} {j : Nat} {v : Int32} {L' : List (Nat × Value)} (ks : List Nat) (hd : decode y.2.1 pc = .ok (.istore j, 2)) (hn : j < y.2.2.1) (hl : ks.filterMap (fun k => (z_st1 j (.int v) L)[k]?) = L') (k : ZO g d y u (pc + 2) L' rest σ t K) : ZO g d y u pc L (.int v :: rest) σ t K := by
  refine ZO.lift (fun p e R s m args below meth c hC Z H locs ls hR hL kk => ?_) k
  obtain ⟨hx, hb, hml, hown, hts, hlk, hK, hrm, hXs, hsc⟩ := hC
  exact lv_istore hx hb hd hL hn (z_st1_map g j (.int v) L) (fun ls hl2 => kk H locs ls hR (z_sub hl2 ks hl))
theorem ZO.istore_n {rest : List Value} {q : Fin 4} {j : Nat} {v : Int32} {L' : List (Nat × Value)} (ks : List Nat) (hd : decode y.2.1 pc = .ok (.istore_n q, 1)) (hj : (q : Nat) = j) (hn : j < y.2.2.1) (hl : ks.filterMap (fun k => (z_st1 j (.int v) L)[k]?) = L') (k : ZO g d y u (pc + 1) L' rest σ t K) : ZO g d y u pc L (.int v :: rest) σ t K := by
  refine ZO.lift (fun p e R s m args below meth c hC Z H locs ls hR hL kk => ?_) k
  obtain ⟨hx, hb, hml, hown, hts, hlk, hK, hrm, hXs, hsc⟩ := hC
  exact lv_istore_n hx hb hd hj hL hn (z_st1_map g j (.int v) L) (fun ls hl2 => kk H locs ls hR (z_sub hl2 ks hl))
theorem ZO.lstore {rest : List Value} {j : Nat} {v : Int64} {L' : List (Nat × Value)} (ks : List Nat) (hd : decode y.2.1 pc = .ok (.lstore j, 2)) (hn : j + 1 < y.2.2.1) (hl : ks.filterMap (fun k => (z_st2 j (.long v) L)[k]?) = L') (k : ZO g d y u (pc + 2) L' rest σ t K) : ZO g d y u pc L (.long v :: rest) σ t K := by
  refine ZO.lift (fun p e R s m args below meth c hC Z H locs ls hR hL kk => ?_) k
  obtain ⟨hx, hb, hml, hown, hts, hlk, hK, hrm, hXs, hsc⟩ := hC
  exact lv_lstore hx hb hd hL hn (z_st2_map g j (.long v) L) (fun ls hl2 => kk H locs ls hR (z_sub hl2 ks hl))
theorem ZO.lstore_n {rest : List Value} {q : Fin 4} {j : Nat} {v : Int64} {L' : List (Nat × Value)} (ks : List Nat) (hd : decode y.2.1 pc = .ok (.lstore_n q, 1)) (hj : (q : Nat) = j) (hn : j + 1 < y.2.2.1) (hl : ks.filterMap (fun k => (z_st2 j (.long v) L)[k]?) = L') (k : ZO g d y u (pc + 1) L' rest σ t K) : ZO g d y u pc L (.long v :: rest) σ t K := by
  refine ZO.lift (fun p e R s m args below meth c hC Z H locs ls hR hL kk => ?_) k
  obtain ⟨hx, hb, hml, hown, hts, hlk, hK, hrm, hXs, hsc⟩ := hC
  exact lv_lstore_n hx hb hd hj hL hn (z_st2_map g j (.long v) L) (fun ls hl2 => kk H locs ls hR (z_sub hl2 ks hl))
theorem ZO.astore {rest : List Value} {j : Nat} {v : Nat} {L' : List (Nat × Value)} (ks : List Nat) (hd : decode y.2.1 pc = .ok (.astore j, 2)) (hn : j < y.2.2.1) (hl : ks.filterMap (fun k => (z_st1 j (.ref v) L)[k]?) = L') (k : ZO g d y u (pc + 2) L' rest σ t K) : ZO g d y u pc L (.ref v :: rest) σ t K := by
  refine ZO.lift (fun p e R s m args below meth c hC Z H locs ls hR hL kk => ?_) k
  obtain ⟨hx, hb, hml, hown, hts, hlk, hK, hrm, hXs, hsc⟩ := hC
  exact lv_astore hx hb hd hL hn (z_st1_map g j (.ref v) L) (fun ls hl2 => kk H locs ls hR (z_sub hl2 ks hl))
theorem ZO.astore_n {rest : List Value} {q : Fin 4} {j : Nat} {v : Nat} {L' : List (Nat × Value)} (ks : List Nat) (hd : decode y.2.1 pc = .ok (.astore_n q, 1)) (hj : (q : Nat) = j) (hn : j < y.2.2.1) (hl : ks.filterMap (fun k => (z_st1 j (.ref v) L)[k]?) = L') (k : ZO g d y u (pc + 1) L' rest σ t K) : ZO g d y u pc L (.ref v :: rest) σ t K := by
  refine ZO.lift (fun p e R s m args below meth c hC Z H locs ls hR hL kk => ?_) k
  obtain ⟨hx, hb, hml, hown, hts, hlk, hK, hrm, hXs, hsc⟩ := hC
  exact lv_astore_n hx hb hd hj hL hn (z_st1_map g j (.ref v) L) (fun ls hl2 => kk H locs ls hR (z_sub hl2 ks hl))
theorem ZO.iinc {rest : List Value} {j i : Nat} {n : Int} {x : Int32} (v : Int32) {L' : List (Nat × Value)} (ks : List Nat) (hd : decode y.2.1 pc = .ok (.iinc j n, 3)) (hi : L[i]? = some (j, .int x)) (hv : x + Int32.ofInt n = v) (hn : j < y.2.2.1) (hl : ks.filterMap (fun k => (z_st1 j (.int v) L)[k]?) = L') (k : ZO g d y u (pc + 3) L' rest σ t K) : ZO g d y u pc L rest σ t K := by
  refine ZO.lift (fun p e R s m args below meth c hC Z H locs ls hR hL kk => ?_) k
  obtain ⟨hx, hb, hml, hown, hts, hlk, hK, hrm, hXs, hsc⟩ := hC
  exact lv_iinc (k := i) hx hb hd hL (by simp [z_vl, hi, z_v]) hv hn (z_st1_map g j (.int v) L) (fun ls hl2 => kk H locs ls hR (z_sub hl2 ks hl))
theorem ZO.iincL {rest : List Value} {j i : Nat} {n : Int} {x : Int32} (v0 : Int32) {f : Int32 → Option α} {L' : Int32 → List (Nat × Value)} (ks : List Nat) (hd : decode y.2.1 pc = .ok (.iinc j n, 3)) (hi : L[i]? = some (j, .int x)) (hv : x + Int32.ofInt n = v0) (hn : j < y.2.2.1) (hl : ∀ v : Int32, ks.filterMap (fun k => (z_st1 j (.int v) L)[k]?) = L' v) (k : ∀ v, ZO g d y u (pc + 3) (L' v) rest σ (f v) K) : ZO g d y u pc L rest σ (lt v0 f) K := ZO.iinc v0 ks hd hi hv hn (hl v0) (k v0)
theorem ZO.iadd {xx yy : Int32} {rest : List Value} (hd : decode y.2.1 pc = .ok (.iadd, 1)) (k : ZO g d y u (pc + 1) L (.int (xx + yy) :: rest) σ t K) : ZO g d y u pc L (.int yy :: .int xx :: rest) σ t K := by
  refine ZO.lift (fun p e R s m args below meth c hC Z H locs ls hR hL kk => ?_) k
  obtain ⟨hx, hb, hml, hown, hts, hlk, hK, hrm, hXs, hsc⟩ := hC
  exact lv_iadd hx hb hd (kk H locs ls hR hL)
theorem ZO.isub {xx yy : Int32} {rest : List Value} (hd : decode y.2.1 pc = .ok (.isub, 1)) (k : ZO g d y u (pc + 1) L (.int (xx - yy) :: rest) σ t K) : ZO g d y u pc L (.int yy :: .int xx :: rest) σ t K := by
  refine ZO.lift (fun p e R s m args below meth c hC Z H locs ls hR hL kk => ?_) k
  obtain ⟨hx, hb, hml, hown, hts, hlk, hK, hrm, hXs, hsc⟩ := hC
  exact lv_isub hx hb hd (kk H locs ls hR hL)
theorem ZO.imul {xx yy : Int32} {rest : List Value} (hd : decode y.2.1 pc = .ok (.imul, 1)) (k : ZO g d y u (pc + 1) L (.int (xx * yy) :: rest) σ t K) : ZO g d y u pc L (.int yy :: .int xx :: rest) σ t K := by
  refine ZO.lift (fun p e R s m args below meth c hC Z H locs ls hR hL kk => ?_) k
  obtain ⟨hx, hb, hml, hown, hts, hlk, hK, hrm, hXs, hsc⟩ := hC
  exact lv_imul hx hb hd (kk H locs ls hR hL)
theorem ZO.iand {xx yy : Int32} {rest : List Value} (hd : decode y.2.1 pc = .ok (.iand, 1)) (k : ZO g d y u (pc + 1) L (.int (xx &&& yy) :: rest) σ t K) : ZO g d y u pc L (.int yy :: .int xx :: rest) σ t K := by
  refine ZO.lift (fun p e R s m args below meth c hC Z H locs ls hR hL kk => ?_) k
  obtain ⟨hx, hb, hml, hown, hts, hlk, hK, hrm, hXs, hsc⟩ := hC
  exact lv_iand hx hb hd (kk H locs ls hR hL)
theorem ZO.ior {xx yy : Int32} {rest : List Value} (hd : decode y.2.1 pc = .ok (.ior, 1)) (k : ZO g d y u (pc + 1) L (.int (xx ||| yy) :: rest) σ t K) : ZO g d y u pc L (.int yy :: .int xx :: rest) σ t K := by
  refine ZO.lift (fun p e R s m args below meth c hC Z H locs ls hR hL kk => ?_) k
  obtain ⟨hx, hb, hml, hown, hts, hlk, hK, hrm, hXs, hsc⟩ := hC
  exact lv_ior hx hb hd (kk H locs ls hR hL)
theorem ZO.ixor {xx yy : Int32} {rest : List Value} (hd : decode y.2.1 pc = .ok (.ixor, 1)) (k : ZO g d y u (pc + 1) L (.int (xx ^^^ yy) :: rest) σ t K) : ZO g d y u pc L (.int yy :: .int xx :: rest) σ t K := by
  refine ZO.lift (fun p e R s m args below meth c hC Z H locs ls hR hL kk => ?_) k
  obtain ⟨hx, hb, hml, hown, hts, hlk, hK, hrm, hXs, hsc⟩ := hC
  exact lv_ixor hx hb hd (kk H locs ls hR hL)
theorem ZO.ishl {xx yy : Int32} {rest : List Value} (hd : decode y.2.1 pc = .ok (.ishl, 1)) (k : ZO g d y u (pc + 1) L (.int (shI xx yy) :: rest) σ t K) : ZO g d y u pc L (.int yy :: .int xx :: rest) σ t K := by
  refine ZO.lift (fun p e R s m args below meth c hC Z H locs ls hR hL kk => ?_) k
  obtain ⟨hx, hb, hml, hown, hts, hlk, hK, hrm, hXs, hsc⟩ := hC
  exact lv_ishl hx hb hd (kk H locs ls hR hL)
theorem ZO.ishr {xx yy : Int32} {rest : List Value} (hd : decode y.2.1 pc = .ok (.ishr, 1)) (k : ZO g d y u (pc + 1) L (.int (srI xx yy) :: rest) σ t K) : ZO g d y u pc L (.int yy :: .int xx :: rest) σ t K := by
  refine ZO.lift (fun p e R s m args below meth c hC Z H locs ls hR hL kk => ?_) k
  obtain ⟨hx, hb, hml, hown, hts, hlk, hK, hrm, hXs, hsc⟩ := hC
  exact lv_ishr hx hb hd (kk H locs ls hR hL)
theorem ZO.iushr {xx yy : Int32} {rest : List Value} (hd : decode y.2.1 pc = .ok (.iushr, 1)) (k : ZO g d y u (pc + 1) L (.int (usrI xx yy) :: rest) σ t K) : ZO g d y u pc L (.int yy :: .int xx :: rest) σ t K := by
  refine ZO.lift (fun p e R s m args below meth c hC Z H locs ls hR hL kk => ?_) k
  obtain ⟨hx, hb, hml, hown, hts, hlk, hK, hrm, hXs, hsc⟩ := hC
  exact lv_iushr hx hb hd rfl (kk H locs ls hR hL)
theorem ZO.idiv {xx yy : Int32} {rest : List Value} (hd : decode y.2.1 pc = .ok (.idiv, 1)) (hne : ¬ yy = 0) (k : ZO g d y u (pc + 1) L (.int (xx / yy) :: rest) σ t K) : ZO g d y u pc L (.int yy :: .int xx :: rest) σ t K := by
  refine ZO.lift (fun p e R s m args below meth c hC Z H locs ls hR hL kk => ?_) k
  obtain ⟨hx, hb, hml, hown, hts, hlk, hK, hrm, hXs, hsc⟩ := hC
  exact lv_idiv hx hb hd hne (kk H locs ls hR hL)
theorem ZO.irem {xx yy : Int32} {rest : List Value} (hd : decode y.2.1 pc = .ok (.irem, 1)) (hne : ¬ yy = 0) (k : ZO g d y u (pc + 1) L (.int (remI xx yy) :: rest) σ t K) : ZO g d y u pc L (.int yy :: .int xx :: rest) σ t K := by
  refine ZO.lift (fun p e R s m args below meth c hC Z H locs ls hR hL kk => ?_) k
  obtain ⟨hx, hb, hml, hown, hts, hlk, hK, hrm, hXs, hsc⟩ := hC
  exact lv_irem hx hb hd hne (kk H locs ls hR hL)
theorem ZO.ladd {xx yy : Int64} {rest : List Value} (hd : decode y.2.1 pc = .ok (.ladd, 1)) (k : ZO g d y u (pc + 1) L (.long (xx + yy) :: rest) σ t K) : ZO g d y u pc L (.long yy :: .long xx :: rest) σ t K := by
  refine ZO.lift (fun p e R s m args below meth c hC Z H locs ls hR hL kk => ?_) k
  obtain ⟨hx, hb, hml, hown, hts, hlk, hK, hrm, hXs, hsc⟩ := hC
  exact lv_ladd hx hb hd (kk H locs ls hR hL)
theorem ZO.lsub {xx yy : Int64} {rest : List Value} (hd : decode y.2.1 pc = .ok (.lsub, 1)) (k : ZO g d y u (pc + 1) L (.long (xx - yy) :: rest) σ t K) : ZO g d y u pc L (.long yy :: .long xx :: rest) σ t K := by
  refine ZO.lift (fun p e R s m args below meth c hC Z H locs ls hR hL kk => ?_) k
  obtain ⟨hx, hb, hml, hown, hts, hlk, hK, hrm, hXs, hsc⟩ := hC
  exact lv_lsub hx hb hd (kk H locs ls hR hL)
theorem ZO.lmul {xx yy : Int64} {rest : List Value} (hd : decode y.2.1 pc = .ok (.lmul, 1)) (k : ZO g d y u (pc + 1) L (.long (xx * yy) :: rest) σ t K) : ZO g d y u pc L (.long yy :: .long xx :: rest) σ t K := by
  refine ZO.lift (fun p e R s m args below meth c hC Z H locs ls hR hL kk => ?_) k
  obtain ⟨hx, hb, hml, hown, hts, hlk, hK, hrm, hXs, hsc⟩ := hC
  exact lv_lmul hx hb hd (kk H locs ls hR hL)
theorem ZO.land {xx yy : Int64} {rest : List Value} (hd : decode y.2.1 pc = .ok (.land, 1)) (k : ZO g d y u (pc + 1) L (.long (xx &&& yy) :: rest) σ t K) : ZO g d y u pc L (.long yy :: .long xx :: rest) σ t K := by
  refine ZO.lift (fun p e R s m args below meth c hC Z H locs ls hR hL kk => ?_) k
  obtain ⟨hx, hb, hml, hown, hts, hlk, hK, hrm, hXs, hsc⟩ := hC
  exact lv_land hx hb hd (kk H locs ls hR hL)
theorem ZO.lor {xx yy : Int64} {rest : List Value} (hd : decode y.2.1 pc = .ok (.lor, 1)) (k : ZO g d y u (pc + 1) L (.long (xx ||| yy) :: rest) σ t K) : ZO g d y u pc L (.long yy :: .long xx :: rest) σ t K := by
  refine ZO.lift (fun p e R s m args below meth c hC Z H locs ls hR hL kk => ?_) k
  obtain ⟨hx, hb, hml, hown, hts, hlk, hK, hrm, hXs, hsc⟩ := hC
  exact lv_lor hx hb hd (kk H locs ls hR hL)
theorem ZO.lxor {xx yy : Int64} {rest : List Value} (hd : decode y.2.1 pc = .ok (.lxor, 1)) (k : ZO g d y u (pc + 1) L (.long (xx ^^^ yy) :: rest) σ t K) : ZO g d y u pc L (.long yy :: .long xx :: rest) σ t K := by
  refine ZO.lift (fun p e R s m args below meth c hC Z H locs ls hR hL kk => ?_) k
  obtain ⟨hx, hb, hml, hown, hts, hlk, hK, hrm, hXs, hsc⟩ := hC
  exact lv_lxor hx hb hd (kk H locs ls hR hL)
theorem ZO.lrem {xx yy : Int64} {rest : List Value} (hd : decode y.2.1 pc = .ok (.lrem, 1)) (hne : ¬ yy = 0) (k : ZO g d y u (pc + 1) L (.long (remL xx yy) :: rest) σ t K) : ZO g d y u pc L (.long yy :: .long xx :: rest) σ t K := by
  refine ZO.lift (fun p e R s m args below meth c hC Z H locs ls hR hL kk => ?_) k
  obtain ⟨hx, hb, hml, hown, hts, hlk, hK, hrm, hXs, hsc⟩ := hC
  exact lv_lrem hx hb hd hne (kk H locs ls hR hL)
theorem ZO.lshl {xx : Int64} {yy : Int32} {rest : List Value} (hd : decode y.2.1 pc = .ok (.lshl, 1)) (k : ZO g d y u (pc + 1) L (.long (shL xx yy) :: rest) σ t K) : ZO g d y u pc L (.int yy :: .long xx :: rest) σ t K := by
  refine ZO.lift (fun p e R s m args below meth c hC Z H locs ls hR hL kk => ?_) k
  obtain ⟨hx, hb, hml, hown, hts, hlk, hK, hrm, hXs, hsc⟩ := hC
  exact lv_lshl hx hb hd rfl (kk H locs ls hR hL)
theorem ZO.lshr {xx : Int64} {yy : Int32} {rest : List Value} (hd : decode y.2.1 pc = .ok (.lshr, 1)) (k : ZO g d y u (pc + 1) L (.long (srL xx yy) :: rest) σ t K) : ZO g d y u pc L (.int yy :: .long xx :: rest) σ t K := by
  refine ZO.lift (fun p e R s m args below meth c hC Z H locs ls hR hL kk => ?_) k
  obtain ⟨hx, hb, hml, hown, hts, hlk, hK, hrm, hXs, hsc⟩ := hC
  exact lv_lshr hx hb hd rfl (kk H locs ls hR hL)
theorem ZO.lushr {xx : Int64} {yy : Int32} {rest : List Value} (hd : decode y.2.1 pc = .ok (.lushr, 1)) (k : ZO g d y u (pc + 1) L (.long (usrL xx yy) :: rest) σ t K) : ZO g d y u pc L (.int yy :: .long xx :: rest) σ t K := by
  refine ZO.lift (fun p e R s m args below meth c hC Z H locs ls hR hL kk => ?_) k
  obtain ⟨hx, hb, hml, hown, hts, hlk, hK, hrm, hXs, hsc⟩ := hC
  exact lv_lushr hx hb hd rfl (kk H locs ls hR hL)
theorem ZO.lcmp {xx yy : Int64} {rest : List Value} (hd : decode y.2.1 pc = .ok (.lcmp, 1)) (k : ZO g d y u (pc + 1) L (.int (lg_cmp xx yy) :: rest) σ t K) : ZO g d y u pc L (.long yy :: .long xx :: rest) σ t K := by
  refine ZO.lift (fun p e R s m args below meth c hC Z H locs ls hR hL kk => ?_) k
  obtain ⟨hx, hb, hml, hown, hts, hlk, hK, hrm, hXs, hsc⟩ := hC
  exact W.lcmp hx hb hd (kk H locs ls hR hL)
theorem ZO.i2l {xx : Int32} {rest : List Value} (hd : decode y.2.1 pc = .ok (.i2l, 1)) (k : ZO g d y u (pc + 1) L (.long xx.toInt64 :: rest) σ t K) : ZO g d y u pc L (.int xx :: rest) σ t K := by
  refine ZO.lift (fun p e R s m args below meth c hC Z H locs ls hR hL kk => ?_) k
  obtain ⟨hx, hb, hml, hown, hts, hlk, hK, hrm, hXs, hsc⟩ := hC
  exact lv_i2l hx hb hd rfl (kk H locs ls hR hL)
theorem ZO.l2i {xx : Int64} {rest : List Value} (hd : decode y.2.1 pc = .ok (.l2i, 1)) (k : ZO g d y u (pc + 1) L (.int xx.toInt32 :: rest) σ t K) : ZO g d y u pc L (.long xx :: rest) σ t K := by
  refine ZO.lift (fun p e R s m args below meth c hC Z H locs ls hR hL kk => ?_) k
  obtain ⟨hx, hb, hml, hown, hts, hlk, hK, hrm, hXs, hsc⟩ := hC
  exact lv_l2i hx hb hd rfl (kk H locs ls hR hL)
theorem ZO.i2b {xx : Int32} {rest : List Value} (hd : decode y.2.1 pc = .ok (.i2b, 1)) (k : ZO g d y u (pc + 1) L (.int xx.toInt8.toInt32 :: rest) σ t K) : ZO g d y u pc L (.int xx :: rest) σ t K := by
  refine ZO.lift (fun p e R s m args below meth c hC Z H locs ls hR hL kk => ?_) k
  obtain ⟨hx, hb, hml, hown, hts, hlk, hK, hrm, hXs, hsc⟩ := hC
  exact lv_i2b hx hb hd rfl (kk H locs ls hR hL)
theorem ZO.i2s {xx : Int32} {rest : List Value} (hd : decode y.2.1 pc = .ok (.i2s, 1)) (k : ZO g d y u (pc + 1) L (.int xx.toInt16.toInt32 :: rest) σ t K) : ZO g d y u pc L (.int xx :: rest) σ t K := by
  refine ZO.lift (fun p e R s m args below meth c hC Z H locs ls hR hL kk => ?_) k
  obtain ⟨hx, hb, hml, hown, hts, hlk, hK, hrm, hXs, hsc⟩ := hC
  exact lv_i2s hx hb hd rfl (kk H locs ls hR hL)
theorem ZO.dup {va : Value} {rest : List Value} (hd : decode y.2.1 pc = .ok (.dup, 1)) (hva : va.category = 1) (k : ZO g d y u (pc + 1) L (va :: va :: rest) σ t K) : ZO g d y u pc L (va :: rest) σ t K := by
  refine ZO.lift (fun p e R s m args below meth c hC Z H locs ls hR hL kk => ?_) k
  obtain ⟨hx, hb, hml, hown, hts, hlk, hK, hrm, hXs, hsc⟩ := hC
  exact lv_dup hx hb hd ((z_cat g va).trans hva) (kk H locs ls hR hL)
theorem ZO.pop {va : Value} {rest : List Value} (hd : decode y.2.1 pc = .ok (.pop, 1)) (hva : va.category = 1) (k : ZO g d y u (pc + 1) L rest σ t K) : ZO g d y u pc L (va :: rest) σ t K := by
  refine ZO.lift (fun p e R s m args below meth c hC Z H locs ls hR hL kk => ?_) k
  obtain ⟨hx, hb, hml, hown, hts, hlk, hK, hrm, hXs, hsc⟩ := hC
  exact lv_pop hx hb hd ((z_cat g va).trans hva) (kk H locs ls hR hL)
theorem ZO.dup2 {va vb : Value} {rest : List Value} (hd : decode y.2.1 pc = .ok (.dup2, 1)) (hva : va.category = 1) (hvb : vb.category = 1) (k : ZO g d y u (pc + 1) L (va :: vb :: va :: vb :: rest) σ t K) : ZO g d y u pc L (va :: vb :: rest) σ t K := by
  refine ZO.lift (fun p e R s m args below meth c hC Z H locs ls hR hL kk => ?_) k
  obtain ⟨hx, hb, hml, hown, hts, hlk, hK, hrm, hXs, hsc⟩ := hC
  exact lv_dup2_11 hx hb hd ((z_cat g va).trans hva) ((z_cat g vb).trans hvb) (kk H locs ls hR hL)
theorem ZO.goto {rest : List Value} {off : Int} (tgt : Nat) (hd : decode y.2.1 pc = .ok (.goto off, 3)) (ht : (pc : Int) + off = (tgt : Int)) (k : ZO g d y u (tgt) L rest σ t K) : ZO g d y u pc L rest σ t K := by
  refine ZO.lift (fun p e R s m args below meth c hC Z H locs ls hR hL kk => ?_) k
  obtain ⟨hx, hb, hml, hown, hts, hlk, hK, hrm, hXs, hsc⟩ := hC
  exact lv_goto hx hb hd ht (kk H locs ls hR hL)
theorem ZO.if_eq {xx : Int32} {rest : List Value} {off : Int} (tgt : Nat) {t1 t2 : Option α} (hd : decode y.2.1 pc = .ok (.ifCond .eq off, 3)) (ht : (pc : Int) + off = (tgt : Int)) (hT : t = ite (xx = 0) t1 t2) (k1 : xx = 0 → ZO g d y u tgt L rest σ t1 K) (k2 : ¬ (xx = 0) → ZO g d y u (pc + 3) L rest σ t2 K) : ZO g d y u pc L (.int xx :: rest) σ t K := by
  refine ZO.lift2 (fun p e R s m args below meth c hC Z H locs ls q1 q2 => ?_) hT k1 k2
  obtain ⟨hx, hb, hml, hown, hts, hlk, hK, hrm, hXs, hsc⟩ := hC
  exact lv_if_eq hx hb hd ht q1 q2
theorem ZO.icmp_eq {xx yy : Int32} {rest : List Value} {off : Int} (tgt : Nat) {t1 t2 : Option α} (hd : decode y.2.1 pc = .ok (.if_icmp .eq off, 3)) (ht : (pc : Int) + off = (tgt : Int)) (hT : t = ite (xx = yy) t1 t2) (k1 : xx = yy → ZO g d y u tgt L rest σ t1 K) (k2 : ¬ (xx = yy) → ZO g d y u (pc + 3) L rest σ t2 K) : ZO g d y u pc L (.int yy :: .int xx :: rest) σ t K := by
  refine ZO.lift2 (fun p e R s m args below meth c hC Z H locs ls q1 q2 => ?_) hT k1 k2
  obtain ⟨hx, hb, hml, hown, hts, hlk, hK, hrm, hXs, hsc⟩ := hC
  exact lv_icmp_eq hx hb hd ht q1 q2
theorem ZO.if_lt {xx : Int32} {rest : List Value} {off : Int} (tgt : Nat) {t1 t2 : Option α} (hd : decode y.2.1 pc = .ok (.ifCond .lt off, 3)) (ht : (pc : Int) + off = (tgt : Int)) (hT : t = ite (xx < 0) t1 t2) (k1 : xx < 0 → ZO g d y u tgt L rest σ t1 K) (k2 : ¬ (xx < 0) → ZO g d y u (pc + 3) L rest σ t2 K) : ZO g d y u pc L (.int xx :: rest) σ t K := by
  refine ZO.lift2 (fun p e R s m args below meth c hC Z H locs ls q1 q2 => ?_) hT k1 k2
  obtain ⟨hx, hb, hml, hown, hts, hlk, hK, hrm, hXs, hsc⟩ := hC
  exact lv_if_lt hx hb hd ht q1 q2
theorem ZO.icmp_lt {xx yy : Int32} {rest : List Value} {off : Int} (tgt : Nat) {t1 t2 : Option α} (hd : decode y.2.1 pc = .ok (.if_icmp .lt off, 3)) (ht : (pc : Int) + off = (tgt : Int)) (hT : t = ite (xx < yy) t1 t2) (k1 : xx < yy → ZO g d y u tgt L rest σ t1 K) (k2 : ¬ (xx < yy) → ZO g d y u (pc + 3) L rest σ t2 K) : ZO g d y u pc L (.int yy :: .int xx :: rest) σ t K := by
  refine ZO.lift2 (fun p e R s m args below meth c hC Z H locs ls q1 q2 => ?_) hT k1 k2
  obtain ⟨hx, hb, hml, hown, hts, hlk, hK, hrm, hXs, hsc⟩ := hC
  exact lv_icmp_lt hx hb hd ht q1 q2
theorem ZO.if_ge {xx : Int32} {rest : List Value} {off : Int} (tgt : Nat) {t1 t2 : Option α} (hd : decode y.2.1 pc = .ok (.ifCond .ge off, 3)) (ht : (pc : Int) + off = (tgt : Int)) (hT : t = ite (0 ≤ xx) t1 t2) (k1 : 0 ≤ xx → ZO g d y u tgt L rest σ t1 K) (k2 : ¬ (0 ≤ xx) → ZO g d y u (pc + 3) L rest σ t2 K) : ZO g d y u pc L (.int xx :: rest) σ t K := by
  refine ZO.lift2 (fun p e R s m args below meth c hC Z H locs ls q1 q2 => ?_) hT k1 k2
  obtain ⟨hx, hb, hml, hown, hts, hlk, hK, hrm, hXs, hsc⟩ := hC
  exact lv_if_ge hx hb hd ht q1 q2
theorem ZO.icmp_ge {xx yy : Int32} {rest : List Value} {off : Int} (tgt : Nat) {t1 t2 : Option α} (hd : decode y.2.1 pc = .ok (.if_icmp .ge off, 3)) (ht : (pc : Int) + off = (tgt : Int)) (hT : t = ite (yy ≤ xx) t1 t2) (k1 : yy ≤ xx → ZO g d y u tgt L rest σ t1 K) (k2 : ¬ (yy ≤ xx) → ZO g d y u (pc + 3) L rest σ t2 K) : ZO g d y u pc L (.int yy :: .int xx :: rest) σ t K := by
  refine ZO.lift2 (fun p e R s m args below meth c hC Z H locs ls q1 q2 => ?_) hT k1 k2
  obtain ⟨hx, hb, hml, hown, hts, hlk, hK, hrm, hXs, hsc⟩ := hC
  exact lv_icmp_ge hx hb hd ht q1 q2
theorem ZO.if_gt {xx : Int32} {rest : List Value} {off : Int} (tgt : Nat) {t1 t2 : Option α} (hd : decode y.2.1 pc = .ok (.ifCond .gt off, 3)) (ht : (pc : Int) + off = (tgt : Int)) (hT : t = ite (0 < xx) t1 t2) (k1 : 0 < xx → ZO g d y u tgt L rest σ t1 K) (k2 : ¬ (0 < xx) → ZO g d y u (pc + 3) L rest σ t2 K) : ZO g d y u pc L (.int xx :: rest) σ t K := by
  refine ZO.lift2 (fun p e R s m args below meth c hC Z H locs ls q1 q2 => ?_) hT k1 k2
  obtain ⟨hx, hb, hml, hown, hts, hlk, hK, hrm, hXs, hsc⟩ := hC
  exact lv_if_gt hx hb hd ht q1 q2
theorem ZO.icmp_gt {xx yy : Int32} {rest : List Value} {off : Int} (tgt : Nat) {t1 t2 : Option α} (hd : decode y.2.1 pc = .ok (.if_icmp .gt off, 3)) (ht : (pc : Int) + off = (tgt : Int)) (hT : t = ite (yy < xx) t1 t2) (k1 : yy < xx → ZO g d y u tgt L rest σ t1 K) (k2 : ¬ (yy < xx) → ZO g d y u (pc + 3) L rest σ t2 K) : ZO g d y u pc L (.int yy :: .int xx :: rest) σ t K := by
  refine ZO.lift2 (fun p e R s m args below meth c hC Z H locs ls q1 q2 => ?_) hT k1 k2
  obtain ⟨hx, hb, hml, hown, hts, hlk, hK, hrm, hXs, hsc⟩ := hC
  exact lv_icmp_gt hx hb hd ht q1 q2
theorem ZO.if_le {xx : Int32} {rest : List Value} {off : Int} (tgt : Nat) {t1 t2 : Option α} (hd : decode y.2.1 pc = .ok (.ifCond .le off, 3)) (ht : (pc : Int) + off = (tgt : Int)) (hT : t = ite (xx ≤ 0) t1 t2) (k1 : xx ≤ 0 → ZO g d y u tgt L rest σ t1 K) (k2 : ¬ (xx ≤ 0) → ZO g d y u (pc + 3) L rest σ t2 K) : ZO g d y u pc L (.int xx :: rest) σ t K := by
  refine ZO.lift2 (fun p e R s m args below meth c hC Z H locs ls q1 q2 => ?_) hT k1 k2
  obtain ⟨hx, hb, hml, hown, hts, hlk, hK, hrm, hXs, hsc⟩ := hC
  exact lv_if_le hx hb hd ht q1 q2
theorem ZO.icmp_le {xx yy : Int32} {rest : List Value} {off : Int} (tgt : Nat) {t1 t2 : Option α} (hd : decode y.2.1 pc = .ok (.if_icmp .le off, 3)) (ht : (pc : Int) + off = (tgt : Int)) (hT : t = ite (xx ≤ yy) t1 t2) (k1 : xx ≤ yy → ZO g d y u tgt L rest σ t1 K) (k2 : ¬ (xx ≤ yy) → ZO g d y u (pc + 3) L rest σ t2 K) : ZO g d y u pc L (.int yy :: .int xx :: rest) σ t K := by
  refine ZO.lift2 (fun p e R s m args below meth c hC Z H locs ls q1 q2 => ?_) hT k1 k2
  obtain ⟨hx, hb, hml, hown, hts, hlk, hK, hrm, hXs, hsc⟩ := hC
  exact lv_icmp_le hx hb hd ht q1 q2
theorem ZO.if_ne {xx : Int32} {rest : List Value} {off : Int} (tgt : Nat) {t1 t2 : Option α} (hd : decode y.2.1 pc = .ok (.ifCond .ne off, 3)) (ht : (pc : Int) + off = (tgt : Int)) (hT : t = ite (xx = 0) t1 t2) (k1 : xx = 0 → ZO g d y u (pc + 3) L rest σ t1 K) (k2 : ¬ (xx = 0) → ZO g d y u tgt L rest σ t2 K) : ZO g d y u pc L (.int xx :: rest) σ t K := by
  refine ZO.lift2 (fun p e R s m args below meth c hC Z H locs ls q1 q2 => ?_) hT k1 k2
  obtain ⟨hx, hb, hml, hown, hts, hlk, hK, hrm, hXs, hsc⟩ := hC
  exact lv_if_ne hx hb hd ht q2 q1
theorem ZO.icmp_ne {xx yy : Int32} {rest : List Value} {off : Int} (tgt : Nat) {t1 t2 : Option α} (hd : decode y.2.1 pc = .ok (.if_icmp .ne off, 3)) (ht : (pc : Int) + off = (tgt : Int)) (hT : t = ite (xx = yy) t1 t2) (k1 : xx = yy → ZO g d y u (pc + 3) L rest σ t1 K) (k2 : ¬ (xx = yy) → ZO g d y u tgt L rest σ t2 K) : ZO g d y u pc L (.int yy :: .int xx :: rest) σ t K := by
  refine ZO.lift2 (fun p e R s m args below meth c hC Z H locs ls q1 q2 => ?_) hT k1 k2
  obtain ⟨hx, hb, hml, hown, hts, hlk, hK, hrm, hXs, hsc⟩ := hC
  exact lv_icmp_ne hx hb hd ht q2 q1
theorem b2i_0 {b : Bool} : b2i b = 0 ↔ b = false := by cases b <;> decide
theorem b2i_n {b : Bool} : ¬ b2i b = 0 ↔ b = true := by cases b <;> decide
theorem b2i_nar (b : Bool) : narrow .boolean (.int (b2i b)) = .int (b2i b) := by cases b <;> decide
/-- a truth on the stack -/
theorem ZO.ifb_eq {b : Bool} {rest : List Value} {off : Int} (tgt : Nat) {t1 t2 : Option α} (hd : decode y.2.1 pc = .ok (.ifCond .eq off, 3)) (ht : (pc : Int) + off = (tgt : Int)) (hT : t = ite (b = true) t1 t2) (k1 : b = true → ZO g d y u (pc + 3) L rest σ t1 K) (k2 : b = false → ZO g d y u tgt L rest σ t2 K) : ZO g d y u pc L (.int (b2i b) :: rest) σ t K := by
  cases b with
  | true => exact ZO.if_eq tgt (t1 := t2) (t2 := t1) hd ht (by rw [hT, if_pos rfl, if_neg (by decide)]) (fun h => absurd h (by decide)) (fun _ => k1 rfl)
  | false => exact ZO.if_eq tgt (t1 := t2) (t2 := t1) hd ht (by rw [hT, if_neg (by decide), if_pos (by decide)]) (fun _ => k2 rfl) (fun h => absurd (by decide) h)
theorem ZO.ifb_ne {b : Bool} {rest : List Value} {off : Int} (tgt : Nat) {t1 t2 : Option α} (hd : decode y.2.1 pc = .ok (.ifCond .ne off, 3)) (ht : (pc : Int) + off = (tgt : Int)) (hT : t = ite (b = true) t1 t2) (k1 : b = true → ZO g d y u tgt L rest σ t1 K) (k2 : b = false → ZO g d y u (pc + 3) L rest σ t2 K) : ZO g d y u pc L (.int (b2i b) :: rest) σ t K := by
  cases b with
  | true => exact ZO.if_ne tgt (t1 := t2) (t2 := t1) hd ht (by rw [hT, if_pos rfl, if_neg (by decide)]) (fun h => absurd h (by decide)) (fun _ => k1 rfl)
  | false => exact ZO.if_ne tgt (t1 := t2) (t2 := t1) hd ht (by rw [hT, if_neg (by decide), if_pos (by decide)]) (fun _ => k2 rfl) (fun h => absurd (by decide) h)
theorem z_ite {c : Prop} [Decidable c] {t : Option α} : t = ite c t t := by split <;> rfl
theorem z_some {c : Prop} [Decidable c] {a b : α} : some (ite c a b) = ite c (some a) (some b) := by split <;> rfl
end ZWs
