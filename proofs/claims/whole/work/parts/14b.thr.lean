-- METHODS THAT THROW, and the law's own four that catch it
section ZThrow
def xt_b (w : Cond) : Bool := match w with
  | .declares x => decide (Cond.declares x ∈ tables_1)
  | .castable a b => decide (Cond.castable a b ∈ tables_1)
  | w => decide (w ∈ GW)
theorem xt_ok : xw.all xt_b = true := by decide +kernel
theorem xt_ot : (Cond.classLink z_R8 159 xE :: Cond.initialized xE :: xw).all vx_ot = true := by decide +kernel
theorem xt_k : Cond.classLink z_R8 159 xE ∈ GW := (gwc4 96 rfl rfl)
theorem xt_i : Cond.initialized xE ∈ GW := (gwc1 21 rfl rfl)
theorem xt_at {g : ZG} {s : State} {args : Array Value} (hts : ∀ w ∈ GW, w.before args s = true) (hX : ZX g s) : ∀ w ∈ xw, w.before args s = true := by
  intro w hw
  have h := List.all_eq_true.mp xt_ok w hw
  clear hw
  cases w with
  | declares x =>
    have h' : Cond.declares x ∈ tables_1 := by simpa only [xt_b, decide_eq_true_eq] using h
    exact va_Nw.use rfl (hX.2.1 _ h')
  | castable a b =>
    have h' : Cond.castable a b ∈ tables_1 := by simpa only [xt_b, decide_eq_true_eq] using h
    exact va_Nw.use rfl (hX.2.2.1 _ _ h')
  | _ =>
    simp only [xt_b, decide_eq_true_eq] at h
    exact hts _ h
/-- a place where a method throws -/
def ZTS (y : ZMI) (pc : Nat) : Prop := y.1.cls = z_R8 ∧
  ((∃ (i ix : Nat) (tx : String), z_ts[i]? = some (ix, tx) ∧ decode y.2.1 pc = .ok (.new 159, 3) ∧ decode y.2.1 (pc + 3) = .ok (.dup, 1) ∧ decode y.2.1 (pc + 4) = .ok (.ldc ix, 2) ∧ decode y.2.1 (pc + 6) = .ok (.invokespecial 163, 3) ∧ decode y.2.1 (pc + 9) = .ok (.athrow, 1)) ∨
   (∃ (i ix : Nat) (tx : String), z_ts[i]? = some (ix, tx) ∧ decode y.2.1 pc = .ok (.new 159, 3) ∧ decode y.2.1 (pc + 3) = .ok (.dup, 1) ∧ decode y.2.1 (pc + 4) = .ok (.ldc_w ix, 3) ∧ decode y.2.1 (pc + 7) = .ok (.invokespecial 163, 3) ∧ decode y.2.1 (pc + 10) = .ok (.athrow, 1)))
def ZVr (d : Nat) : Room := { frames := d, cells := 1, slots := 6, locals := 40 * d }
def ZVX (g : ZG) (sz : Nat) (P : ZSt → Prop) : String → State → State → Prop := fun E st t => E = xE ∧ ∃ τ, P τ ∧ va_P g.2.1 z_cls (z_wl g τ) t.heap ∧ va_F (z_A g sz) st t
/-- a method that answers an int, or throws -/
def ZV (g : ZG) (d : Nat) (y : ZMI) (As : List Value) (σ : ZSt) (t : Option (Option Int32 × Nat × ZSt)) : Prop :=
  ∀ b, t = some b → ∀ sz : Nat, vx_Met g.1 y.1 (z_ws y) (ZVr d) (ZMP g As σ sz) (ZMQ g sz (fun r τ => b.1.map (fun v => Value.int v) = r ∧ b.1.isSome = true ∧ b.2.2 = τ)) (ZVX g sz (fun τ => b.1 = none ∧ b.2.2 = τ)) 1 6 (z_A g sz)
set_option maxHeartbeats 1000000 in
theorem ZV.of {g : ZG} {d : Nat} {y : ZMI} {As : List Value} {σ : ZSt} {t : Option (Option Int32 × Nat × ZSt)} (hd : 8 ≤ d) (hy : plainName y.1.cls = true) (hlen : (lg_sl As).length ≤ y.2.2.1) (hsite : ∀ b, t = some b → b.1 = none → ZTS y b.2.1)
    (h : ZO g d y zu0 0 (lv_args 0 As) [] σ t (fun b => (b.1.map (fun v => some (.int v)), b.2.2, b.2.1))) : ZV g d y As σ t := by
  intro b hbt sz
  refine vx_ofW (cc := y.2.1) (maxL := y.2.2.1) (ret := y.2.2.2) (ws' := GW) hy rfl ?_
  intro p e s m args below meth c s₁ B hml htab hv
  obtain ⟨rfl, hsz, hP, hK, hD0, hXs⟩ := hv
  subst hsz
  have hr := B.returns
  have hlocks := B.notSynchronized
  have hx := B.exec
  have hb := B.bytes
  have hown := findClass_of_methodNamed B.named
  have hts : ∀ w ∈ GW, w.before ((As.map (z_v g)).toArray) s = true := fun w hw => atoms_spec (ws := z_ws y) B.pre w (z_wsm hw)
  have htab0 : c.exceptionTable.toList = tableOf [] := by
    cases hq : c.exceptionTable.toList with
    | nil => rfl
    | cons x l => exact (htab x (by rw [hq]; exact List.mem_cons_self)).elim
  have hC : ZC g d y zu0 p (headSpec (z_ws y) (ZVr d)).room s m ((As.map (z_v g)).toArray) meth c :=
    ⟨B.exec, B.bytes, hml, hown, hts, hlocks, hK, ⟨Nat.le_refl _, Nat.le_refl _, Nat.zero_le _, Nat.zero_le _⟩, hXs, htab0, fun L xs h => by cases h⟩
  have hl := lv_entry (As.map (z_v g)) (n := y.2.2.1) (by rw [z_sllen]; exact hlen)
  rw [lg_entry_eq]
  generalize (lg_sl (As.map (z_v g)) ++ List.replicate (y.2.2.1 - (lg_sl (As.map (z_v g))).length) Slot.unset).toArray = ls at hl ⊢
  refine h b hbt p e _ s m _ below meth c hC _ (fun k0 n0 hk0 => ?_) s.heap [] ls ⟨hP, z_D hD0 (fun o ho => z_Aid ho), va_S.rf⟩ (by rw [z_args] at hl; exact hl)
  obtain ⟨rfl, rfl⟩ : k0 = 0 ∧ n0 = 0 := ⟨Nat.le_zero.mp hk0.1.2, Nat.le_zero.mp hk0.2.2⟩
  refine ⟨?_, ?_, ?_, ?_, ?_⟩
  · intro pc H locs ls τ v ty hd1 hty hn hR hQ
    obtain ⟨hq1, hq2⟩ := hQ
    refine W.widen (k := 1) (n := 6) (Nat.zero_le _) (Nat.zero_le _) (vx_ret ?_)
    refine W.zret hx hb (hr.trans hty) hn (fun t ht hW => ⟨⟨some (.int v), τ, rfl, ?_, by rw [ht]; exact hR.1⟩, hR.2.2.F ht⟩) hR.2.2.2.2 hd1
    obtain ⟨b1, b2, b3⟩ := b
    cases b1 with
    | none => cases hq1
    | some w => cases hq1; exact ⟨rfl, rfl, hq2⟩
  · intro pc H locs ls τ v hd1 hty hR hQ
    obtain ⟨b1, b2, b3⟩ := b
    cases b1 with
    | none => cases hQ.1
    | some w => cases hQ.1
  · intro pc H locs ls τ v C hd1 hty hR hQ
    obtain ⟨b1, b2, b3⟩ := b
    cases b1 with
    | none => cases hQ.1
    | some w => cases hQ.1
  · intro pc H locs ls τ hd1 hty hR hQ
    obtain ⟨b1, b2, b3⟩ := b
    cases b1 with
    | none => cases hQ.1
    | some w => cases hQ.1
  · intro pc H locs ls τ hq hR hls
    obtain ⟨hq1, hq2, hq3⟩ := hq
    have hq1 : b.1.map (fun v => some (Value.int v)) = none := hq1
    have hbn : b.1 = none := by
      cases hb1 : b.1 with
      | none => rfl
      | some w => rw [hb1] at hq1; cases hq1
    have hsite' := hsite b hbt hbn
    have hq3 : b.2.1 = pc := hq3
    rw [hq3] at hsite'
    obtain ⟨hcls, hs⟩ := hsite'
    rw [hcls] at hown
    have hxx : ∀ t : State, s.vm.Alike t.vm → H.size ≤ t.heap.size → (∀ q : Nat, q < H.size → t.heap[q]? = H[q]?) → ZVX g s.heap.size (fun τ => b.1 = none ∧ b.2.2 = τ) xE s t := by
      intro t hal hsz hq
      refine ⟨rfl, τ, ⟨hbn, hq2⟩, hR.1.kept (fun k q hk => hq _ (hR.1 k q hk).lt), Nat.le_trans hR.2.2.1 hsz, fun q h1 h2 => ?_⟩
      rw [hq q (Nat.lt_of_lt_of_le h1 hR.2.2.1)]
      exact hR.2.2.2.1 q h1 h2
    have hgood : ∀ w ∈ Cond.classLink z_R8 159 xE :: Cond.initialized xE :: xw, vx_ot w = true := fun w hw => List.all_eq_true.mp xt_ot w hw
    rcases hs with ⟨i, ix, tx, hi, d0, d3, d4, d6, d9⟩ | ⟨i, ix, tx, hi, d0, d3, d4, d7, d10⟩
    · exact xw_row (ik := 159) (is := ix) (w := 2) (text := tx) hx hb hXs.2.2.2.2.2.2.2.2.2.2 hown (hts _ xt_k) (hts _ xt_i) (hXs.2.2.2.2.2.1 i _ hi) (xt_at hts hXs) hgood hXs.2.2.2.2.2.2.2.2.1 hXs.2.2.2.2.2.2.2.2.2.1 hR.2.2 (hls.trans hml.symm) d0 d3 (Or.inl ⟨d4, rfl⟩) d6 d9 (fun x hx => (htab x hx).elim) (by show 5 < d; omega) (by show 0 + 82 ≤ 40 * d; omega) (Nat.le_refl _) (Nat.le_refl _) hlocks hxx hR.2.2.2.2 (Nat.le_refl _) (Nat.le_refl _)
    · exact xw_row (ik := 159) (is := ix) (w := 3) (text := tx) hx hb hXs.2.2.2.2.2.2.2.2.2.2 hown (hts _ xt_k) (hts _ xt_i) (hXs.2.2.2.2.2.1 i _ hi) (xt_at hts hXs) hgood hXs.2.2.2.2.2.2.2.2.1 hXs.2.2.2.2.2.2.2.2.2.1 hR.2.2 (hls.trans hml.symm) d0 d3 (Or.inr ⟨d4, rfl⟩) d7 d10 (fun x hx => (htab x hx).elim) (by show 5 < d; omega) (by show 0 + 82 ≤ 40 * d; omega) (Nat.le_refl _) (Nat.le_refl _) hlocks hxx hR.2.2.2.2 (Nat.le_refl _) (Nat.le_refl _)
end ZThrow
