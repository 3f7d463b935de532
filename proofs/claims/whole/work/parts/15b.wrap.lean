-- THE WRAPPERS' CONTRACTS, and the law's rows
section ZLaw
variable {α : Type} {g : ZG} {d : Nat} {y : ZMI} {u : ZU} {pc : Nat} {L : List (Nat × Value)} {S : List Value} {σ : ZSt} {t : Option α} {K : α → (Option (Option Value)) × ZSt × Nat}
def wrapF (b : Option Int32 × Nat × ZSt) : Int32 × ZSt := match b.1 with
  | some v => (0, sal b.2.2 550 0 v.toInt64)
  | none => (1, b.2.2)
def ZWM (g : ZG) (d : Nat) (y : ZMI) (hh : List (Nat × Nat × Nat × Nat)) (As : List Value) (σ : ZSt) (c : Int32 × ZSt) : Prop :=
  ∀ sz : Nat, vx_Met g.1 y.1 (zw_ws y hh) (ZVr d) (ZMP g As σ sz) (ZMQ g sz (fun r τ => r = some (.int c.1) ∧ τ = c.2)) (fun _ _ _ => False) 1 6 (z_A g sz)
set_option maxHeartbeats 1000000 in
theorem ZWM.of {As : List Value} {hh : List (Nat × Nat × Nat × Nat)} {t : Option (Int32 × ZSt)} (hy : plainName y.1.cls = true) (hlen : (lg_sl As).length ≤ y.2.2.1)
    (h : ZO g d y ((none, 1, 6, hh), 0, 0) 0 (lv_args 0 As) [] σ t (fun c => (some (some (.int c.1)), c.2, 0))) : ∀ c, t = some c → ZWM g d y hh As σ c := by
  intro b hbt sz
  refine vx_ofWH (cc := y.2.1) (maxL := y.2.2.1) (ret := y.2.2.2) (hh := hh) (ws' := GW) hy rfl ?_
  intro p e s m args below meth c s₁ B hml hv
  obtain ⟨rfl, hsz, hP, hK, hD0, hXs⟩ := hv
  subst hsz
  have hr := B.returns
  have hlocks := B.notSynchronized
  have hx := B.exec
  have hb := B.bytes
  have hown := findClass_of_methodNamed B.named
  have hts0 : ∀ w ∈ zw_ws y hh, w.before ((As.map (z_v g)).toArray) s = true := fun w hw => atoms_spec (ws := zw_ws y hh) B.pre w hw
  have hts : ∀ w ∈ GW, w.before ((As.map (z_v g)).toArray) s = true := fun w hw => hts0 w (List.mem_cons_of_mem _ hw)
  have htab : c.exceptionTable.toList = tableOf hh := vx_table (x := y.1) B (hts0 (.codeWith y.1 y.2.1 y.2.2.1 y.2.2.2 hh) List.mem_cons_self)
  have hC : ZC g d y ((none, 1, 6, hh), 0, 0) p (headSpec (zw_ws y hh) (ZVr d)).room s m ((As.map (z_v g)).toArray) meth c :=
    ⟨hx, hb, hml, hown, hts, hlocks, hK, ⟨Nat.le_refl _, Nat.le_refl _, Nat.le_refl _, Nat.le_refl _⟩, hXs, htab, fun L xs h => by cases h⟩
  have hl := lv_entry (As.map (z_v g)) (n := y.2.2.1) (by rw [z_sllen]; exact hlen)
  rw [lg_entry_eq]
  generalize (lg_sl (As.map (z_v g)) ++ List.replicate (y.2.2.1 - (lg_sl (As.map (z_v g))).length) Slot.unset).toArray = ls at hl ⊢
  refine h b hbt p e _ s m _ below meth c hC _ (fun k0 n0 hk0 => ?_) s.heap [] ls ⟨hP, z_D hD0 (fun o ho => z_Aid ho), va_S.rf⟩ (by rw [z_args] at hl; exact hl)
  obtain ⟨⟨-, hk1⟩, -, hn1⟩ := hk0
  have hk1 : k0 ≤ 1 := by have : k0 ≤ 0 + 1 := hk1; omega
  have hn1 : n0 ≤ 6 := by have : n0 ≤ 0 + 6 := hn1; omega
  refine ⟨?_, ?_, ?_, ?_, ?_⟩
  · intro pc H locs ls τ v ty hd1 hty hn hR hQ
    refine W.widen (k := 1) (n := 6) hk1 hn1 (vx_ret ?_)
    exact W.zret hx hb (hr.trans hty) hn (fun t ht hW => ⟨⟨some (.int v), τ, rfl, ⟨(Option.some.inj hQ.1).symm, hQ.2.symm⟩, by rw [ht]; exact hR.1⟩, hR.2.2.F ht⟩) hR.2.2.2.2 hd1
  · intro pc H locs ls τ v hd1 hty hR hQ
    cases hQ.1
  · intro pc H locs ls τ v C hd1 hty hR hQ
    cases hQ.1
  · intro pc H locs ls τ hd1 hty hR hQ
    cases hQ.1
  · intro pc H locs ls τ hq
    cases hq.1
theorem ZO.widenU {sc : Option (Nat × (Nat → Int32))} {b1 b2 k1 k2 : Nat} {hh : List (Nat × Nat × Nat × Nat)} (k : ZO g d y ((sc, b1, b2, hh), k1 + 1, k2 + 6) pc L S σ t K) : ZO g d y ((sc, b1 + 1, b2 + 6, hh), k1, k2) pc L S σ t K := by
  intro a ha p e R s m args below meth c hC Z hE H locs ls hR hL
  obtain ⟨hx, hb', hml, hown, hts, hlk, hK, ⟨hr1, hr2, hr3, hr4⟩, hXs, htab, hsc⟩ := hC
  have hr3 : k1 + (b1 + 1) ≤ R.cells := hr3
  have hr4 : k2 + (b2 + 6) ≤ R.slots := hr4
  refine W.widen (k := k1 + 1) (n := k2 + 6) (Nat.le_add_right _ _) (Nat.le_add_right _ _) ?_
  refine k a ha p e R s m args below meth c ⟨hx, hb', hml, hown, hts, hlk, hK, ⟨hr1, hr2, by show k1 + 1 + b1 ≤ R.cells; omega, by show k2 + 6 + b2 ≤ R.slots; omega⟩, hXs, htab, hsc⟩ Z (fun k0 n0 hk => ?_) H locs ls hR hL
  obtain ⟨⟨h1, h2⟩, h3, h4⟩ := hk
  have h1 : k1 + 1 ≤ k0 := h1
  have h2 : k0 ≤ k1 + 1 + b1 := h2
  have h3 : k2 + 6 ≤ n0 := h3
  have h4 : n0 ≤ k2 + 6 + b2 := h4
  exact hE k0 n0 ⟨⟨by show k1 ≤ k0; omega, by show k0 ≤ k1 + (b1 + 1); omega⟩, by show k2 ≤ n0; omega, by show n0 ≤ k2 + (b2 + 6); omega⟩
theorem ZO.rjnU {u' : ZU} {β : Type} {rest : β → Option α} {f : (β → Option α) → Option α} {pcJ : Nat} {LJ : β → List (Nat × Value)} {SJ : β → List Value} {σJ : β → ZSt}
    (J : ∀ x, ZO g d y u' pcJ (LJ x) (SJ x) (σJ x) (rest x) K)
    (B : ∀ j : β → Option α, (∀ x, ZO g d y u' pcJ (LJ x) (SJ x) (σJ x) (j x) K) → ZO g d y u pc L S σ (f j) K) : ZO g d y u pc L S σ (jn rest f) K := B rest J
theorem ZO.loopB {β : Type} {body : (β → Option α) → β → Option α} {sc : Option (Nat × (Nat → Int32))} {hh : List (Nat × Nat × Nat × Nat)} (LJ : β → List (Nat × Value)) (σJ : β → ZSt)
    (B : ∀ (j : β → Option α) (x : β) (b1 b2 k1 k2 : Nat), (∀ x, ZO g d y ((sc, b1, b2, hh), k1 + 1, k2 + 6) pc (LJ x) [] (σJ x) (j x) K) → ZO g d y ((sc, b1 + 1, b2 + 6, hh), k1, k2) pc (LJ x) [] (σJ x) (body j x) K) :
    ∀ (n k1 k2 : Nat) (x : β), ZO g d y ((sc, n, 6 * n, hh), k1, k2) pc (LJ x) [] (σJ x) (lpN body n x) K := by
  intro n
  induction n with
  | zero => exact fun _ _ x => ZO.nn
  | succ n ih => exact fun k1 k2 x => B _ x n (6 * n) k1 k2 (fun x => ih (k1 + 1) (k2 + 6) x)
def ZCW (own : String) (ix : Nat) (y : ZMI) (hh : List (Nat × Nat × Nat × Nat)) (n : Nat) : Prop :=
  Cond.methodLink own ix y.1 ∈ GW ∧ Cond.static y.1 ∈ GW ∧ Cond.initialized y.1.cls ∈ GW ∧ Cond.codeWith y.1 y.2.1 y.2.2.1 y.2.2.2 hh ∈ GW ∧ (y.1.cls ≠ "java/lang/invoke/MethodHandle" ∧ y.1.cls ≠ "java/lang/invoke/VarHandle") ∧ (parseMethodDescriptor y.1.desc).map (fun d => d.parameters.length) = some n ∧ y.2.2.1 ≤ 21
set_option maxHeartbeats 1000000 in
theorem ZO.callW {y' : ZMI} {hh hh0 : List (Nat × Nat × Nat × Nat)} {n ix d' : Nat} {As rest : List Value} {sc : Option (Nat × (Nat → Int32))} {b1 b2 k1 k2 : Nat} {t' : Option (Int32 × ZSt)} {f : Int32 × ZSt → Option α}
    (hd : decode y.2.1 pc = .ok (.invokestatic ix, 3)) (hw : ZCW y.1.cls ix y' hh n) (hdd : d' < d) (hn : As.length = n) (hS : S = As.reverse ++ rest) (hcat : (rest.map fun v => v.category).sum ≤ 8)
    (hF : ∀ b, t' = some b → ZWM g d' y' hh As σ b)
    (k : ∀ b, t' = some b → ZO g d y ((sc, b1, b2, hh0), k1 + 1, k2 + 6) (pc + 3) L (.int b.1 :: rest) b.2 (f b) K) : ZO g d y ((sc, b1 + 1, b2 + 6, hh0), k1, k2) pc L S σ (bn t' f) K := by
  intro a ha p e R s m args below meth c' hC Z hE H locs ls hR hL
  obtain ⟨b, hb, hfb⟩ := Option.bind_eq_some_iff.mp ha
  obtain ⟨hx, hb', hml, hown, hts, hlk, hK, ⟨hr1, hr2, hr3, hr4⟩, hXs, htab, hsc⟩ := hC
  have hr3 : k1 + (b1 + 1) ≤ R.cells := hr3
  have hr4 : k2 + (b2 + 6) ≤ R.slots := hr4
  obtain ⟨w1, w2, w4, w5, w6, w7, w8⟩ := hw
  have hG : GoodIn GW (va_wsS y.1.cls ix y'.1 (zw_ws y' hh)) := by
    intro w hw
    simp only [va_wsS, List.mem_append, List.mem_cons, List.not_mem_nil, or_false] at hw
    rcases hw with (rfl | rfl | rfl) | h
    · exact ⟨w1, good_of_word (gw_g w1)⟩
    · exact ⟨w2, good_of_word (gw_g w2)⟩
    · exact ⟨w4, good_of_word (gw_g w4)⟩
    · rcases List.mem_cons.mp h with rfl | h
      · exact ⟨w5, good_of_word (gw_g w5)⟩
      · exact ⟨h, good_of_word (gw_g h)⟩
  have hcw := vx_cwSW (R := R) (s := s) (args := args) (mc := 1) (ms := 6) (rm := ZVr d') n hts hG rfl rfl rfl ⟨w6.1, w6.2, w7⟩ ⟨by show d' + 1 ≤ R.frames; omega, by show 8 + (y'.2.2.1 + 11) + 40 * d' ≤ R.locals; omega⟩
  have hlen : (As.map (z_v g)).length = n := by rw [List.length_map]; exact hn
  have hstk : (F0 m pc ls (S.map (z_v g))).stack = (As.map (z_v g)).reverse ++ rest.map (z_v g) := by
    subst hS
    simp
  have hrun := vx_runSX (p := p) (l := g.1) (e := e) (m := m) (args := args) (below := below) (meth := meth) (c := c') (H := H) (locs := locs) (cells := k1) (slots := k2) (As := As.map (z_v g)) (rest := rest.map (z_v g)) (nL := y.2.2.1) ⟨hx, hb', hml, hown, hts⟩ (hF b hb H.size) hcw ⟨z_blind, fun U hU hW => ⟨rfl, by rw [hU], by rw [hU]; exact hR.1, va_K.moved hW.alike hK, hR.2.1.weaken (fun _ _ _ _ => trivial), hXs.on hR.2.2 hU hW⟩⟩ rfl hlen hL.1 hstk (lv_room (by rw [z_cats]; exact hcat)) hd ⟨by omega, by omega⟩
  intro T hT X
  rcases hrun T hT X with ⟨v, st₀, t1, T', L1, h0, X', hL1, e1, e2, ⟨⟨r, τ, hv, ⟨hq1, hq3⟩, hP1⟩, hF1⟩, st⟩ | ⟨q, st₀, t1, T', L1, E, ce, h0, X', hL1, e1, e2, hXC1, hcell, hvm, hcl, st⟩
  · subst hq3
    subst hq1
    cases hv
    have hR' := vx_keepZ hR h0 e1 hP1 hF1 hL1
    obtain ⟨t2, a1, b1'⟩ := k b hb a hfb p e R s m args below meth c' ⟨hx, hb', hml, hown, hts, hlk, hK, ⟨hr1, hr2, by show k1 + 1 + b1 ≤ R.cells; omega, by show k2 + 6 + b2 ≤ R.slots; omega⟩, hXs, htab, hsc⟩ Z (fun k0 n0 hk => by
      obtain ⟨⟨h1, h2⟩, h3, h4⟩ := hk
      have h1 : k1 + 1 ≤ k0 := h1
      have h2 : k0 ≤ k1 + 1 + b1 := h2
      have h3 : k2 + 6 ≤ n0 := h3
      have h4 : n0 ≤ k2 + 6 + b2 := h4
      exact hE k0 n0 ⟨⟨by show k1 ≤ k0; omega, by show k0 ≤ k1 + (b1 + 1); omega⟩, by show k2 ≤ n0; omega, by show n0 ≤ k2 + (b2 + 6); omega⟩) T'.heap (locs ++ L1) ls hR' hL T' rfl X'
    exact ⟨t2, st t2 a1, b1'⟩
  · exact hXC1.elim
end ZLaw
