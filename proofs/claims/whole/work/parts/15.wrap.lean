-- THE LAW'S FOUR that catch
section ZWrap
variable {α : Type} {g : ZG} {d : Nat} {y : ZMI} {u : ZU} {pc : Nat} {L : List (Nat × Value)} {S : List Value} {σ : ZSt} {t : Option α} {K : α → (Option (Option Value)) × ZSt × Nat}
def zw_ws (y : ZMI) (hh : List (Nat × Nat × Nat × Nat)) : List Cond := .codeWith y.1 y.2.1 y.2.2.1 y.2.2.2 hh :: GW
theorem xw_k : Cond.classLink "BesideAnotherLaw" 13 xE ∈ GW := (gwc4 91 rfl rfl)
theorem xw_c : Cond.castable xE xE ∈ tables_1 := List.mem_of_getElem? (i := 818) (by decide +kernel)
theorem vx_keepZ {g : ZG} {s t st₀ T' : State} {H : Heap} {locs L1 : List Loc} {σ τ : ZSt} (hR : ZR g s σ H locs) (h0 : st₀.heap = H) (e1 : T'.heap = t.heap) (hP1 : va_P g.2.1 z_cls (z_wl g τ) t.heap) (hF : va_F (z_A g H.size) st₀ t) (hL1 : ∀ q ∈ L1, z_A g H.size q.base) : ZR g s τ T'.heap (locs ++ L1) := by
  obtain ⟨hP, hD, hS⟩ := hR
  obtain ⟨hz, hk⟩ := hF
  rw [h0] at hz hk
  refine ⟨by rw [e1]; exact hP1, z_D hD (fun o ho => z_Aid ho), ⟨Nat.le_trans hS.1 (by rw [e1]; exact hz), ?_, ?_⟩⟩
  · intro q h1 h2
    rw [e1, hk q (Nat.lt_of_lt_of_le h1 hS.1) ?_]
    · exact hS.2.1 q h1 h2
    · intro hq
      rcases hq with ⟨o, ho, rfl⟩ | hq
      · exact h2 (z_Aid ho)
      · exact absurd (Nat.le_trans hS.1 hq) (Nat.not_le.mpr h1)
  · intro q hq
    rcases List.mem_append.mp hq with h | h
    · exact hS.2.2 q h
    · rcases hL1 q h with ⟨o, ho, e⟩ | h2
      · rw [e]; exact z_Aid ho
      · exact Or.inr (Nat.le_trans hS.1 h2)
/-- a call of a method that may throw, and the catch (what is caught is put into a local that nobody reads) -/
theorem ZO.catchV {yc : ZMI} {n ix d' hp ep j w : Nat} {As rest : List Value} {sc : Option (Nat × (Nat → Int32))} {b1 b2 k1 k2 : Nat} {t' : Option (Option Int32 × Nat × ZSt)} {f : Option Int32 × Nat × ZSt → Option α}
    (hcls : y.1.cls = "BesideAnotherLaw") (hd : decode y.2.1 pc = .ok (.invokevirtual ix, 3)) (hw : ZCV y.1.cls ix yc n) (hdd : d' < d) (hc : z_R8 = yc.1.cls) (hn : As.length = n) (hS : S = As.reverse ++ .ref 1 :: rest) (hcat : (rest.map fun v => v.category).sum ≤ 8)
    (hV : ZV g d' yc (.ref 1 :: As) σ t') (hpc : pc < ep) (hast : (decode y.2.1 hp = .ok (.astore j, 2) ∧ w = 2) ∨ (∃ jj : Fin 4, decode y.2.1 hp = .ok (.astore_n jj, 1) ∧ (jj : Nat) = j ∧ w = 1)) (hj : j < y.2.2.1) (hfree : ∀ q ∈ L, q.1 ≠ j ∧ ¬ (q.1 + 1 = j ∧ q.2.category = 2))
    (k : ∀ b v, t' = some b → b.1 = some v → ZO g d y ((sc, b1, b2, [(0, ep, hp, 13)]), k1 + 1, k2 + 6) (pc + 3) L (.int v :: rest) b.2.2 (f b) K)
    (kx : ∀ b, t' = some b → b.1 = none → ZO g d y ((sc, b1, b2, [(0, ep, hp, 13)]), k1 + 1, k2 + 6) (hp + w) L [] b.2.2 (f b) K) :
    ZO g d y ((sc, b1 + 1, b2 + 6, [(0, ep, hp, 13)]), k1, k2) pc L S σ (bn t' f) K := by
  intro a ha p e R s m args below meth c' hC Z hE H locs ls hR hL
  obtain ⟨b, hb, hfb⟩ := Option.bind_eq_some_iff.mp ha
  obtain ⟨hx, hb', hml, hown, hts, hlk, hK, ⟨hr1, hr2, hr3, hr4⟩, hXs, htab, hsc⟩ := hC
  have hr3 : k1 + (b1 + 1) ≤ R.cells := hr3
  have hr4 : k2 + (b2 + 6) ≤ R.slots := hr4
  obtain ⟨w1, w2, w3, w4, w5, w6, w7, w8⟩ := hw
  obtain ⟨i, -, hi⟩ := z_at g σ (z_isO_id zo_1).1
  rw [z_ct_o (z_isO_id zo_1).2] at hi
  have hG : GoodIn GW (wsV y.1.cls ix yc.1.cls yc.1 (z_ws yc)) := by
    intro w hw
    simp only [wsV, List.mem_append, List.mem_cons, List.not_mem_nil, or_false] at hw
    rcases hw with (rfl | rfl | rfl | rfl) | h
    · exact ⟨w1, good_of_word (gw_g w1)⟩
    · exact ⟨w2, good_of_word (gw_g w2)⟩
    · exact ⟨w3, good_of_word (gw_g w3)⟩
    · exact ⟨w4, good_of_word (gw_g w4)⟩
    · exact z_good w5 w h
  have hrecv := va_recv hK hR.1 (ci := 8) (q0 := i) (q := (z_R8, z_F8, 19)) rfl hi
  have hrecv : ∃ cell : Cell, H[g.2.2.2 1]? = some cell ∧ cell.vm.isStatics = false ∧ s.vm.findClass yc.1.cls = some cell.cls := by rw [← hc]; exact hrecv
  have hcw := cwV (R := R) (args := args) (mc := 1) (ms := 6) (rm := ZVr d') n hts hG rfl rfl rfl ⟨rfl, w6.1, w6.2, w7⟩ ⟨by show d' + 1 ≤ R.frames; omega, by show 8 + (yc.2.2.1 + 11) + 40 * d' ≤ R.locals; omega⟩
  have hlen : (As.map (z_v g)).length = n := by rw [List.length_map]; exact hn
  have hstk : (F0 m pc ls (S.map (z_v g))).stack = (As.map (z_v g)).reverse ++ .ref (g.2.2.2 1) :: rest.map (z_v g) := by
    subst hS
    simp [z_v]
  have hrun := vx_runV (p := p) (l := g.1) (e := e) (m := m) (args := args) (below := below) (meth := meth) (c := c') (H := H) (locs := locs) (cells := k1) (slots := k2) (As := As.map (z_v g)) (rest := rest.map (z_v g)) (nL := y.2.2.1) ⟨hx, hb', hml, hown, hts⟩ (hV b hb H.size) hcw ⟨z_blind, hrecv, fun U hU hW => ⟨rfl, by rw [hU], by rw [hU]; exact hR.1, va_K.moved hW.alike hK, hR.2.1.weaken (fun _ _ _ _ => trivial), hXs.on hR.2.2 hU hW⟩⟩ rfl hlen hL.1 hstk (lv_room (by rw [z_cats]; exact hcat)) hd ⟨by omega, by omega⟩
  have hC' : ZC g d y ((sc, b1, b2, [(0, ep, hp, 13)]), k1 + 1, k2 + 6) p R s m args meth c' := ⟨hx, hb', hml, hown, hts, hlk, hK, ⟨hr1, hr2, by show k1 + 1 + b1 ≤ R.cells; omega, by show k2 + 6 + b2 ≤ R.slots; omega⟩, hXs, htab, hsc⟩
  have hE' : ∀ (Q : Option Value → ZSt → Prop) (QT : Nat → ZSt → Prop), ZE g y ((sc, b1 + 1, b2 + 6, [(0, ep, hp, 13)]), k1, k2) p e R s m args below meth c' Z Q QT → ZE g y ((sc, b1, b2, [(0, ep, hp, 13)]), k1 + 1, k2 + 6) p e R s m args below meth c' Z Q QT := by
    intro Q QT h k0 n0 hk
    obtain ⟨⟨h1, h2⟩, h3, h4⟩ := hk
    have h1 : k1 + 1 ≤ k0 := h1
    have h2 : k0 ≤ k1 + 1 + b1 := h2
    have h3 : k2 + 6 ≤ n0 := h3
    have h4 : n0 ≤ k2 + 6 + b2 := h4
    exact h k0 n0 ⟨⟨by show k1 ≤ k0; omega, by show k0 ≤ k1 + (b1 + 1); omega⟩, by show k2 ≤ n0; omega, by show n0 ≤ k2 + (b2 + 6); omega⟩
  intro T hT X
  rcases hrun T hT X with ⟨v, st₀, t1, T', L1, h0, X', hL1, e1, e2, ⟨⟨r, τ, hv, ⟨hq1, hq2, hq3⟩, hP1⟩, hF⟩, st⟩ | ⟨q, st₀, t1, T', L1, E, ce, h0, X', hL1, e1, e2, ⟨hXC1, τ, ⟨hq1, hq3⟩, hP1, hF⟩, hcell, hvm, hcl, st⟩
  · subst hq3
    obtain ⟨w, hw⟩ := Option.isSome_iff_exists.mp hq2
    rw [hw] at hq1
    subst hq1
    cases hv
    have hR' := vx_keepZ hR h0 e1 hP1 hF hL1
    obtain ⟨t2, a1, b1'⟩ := k b w hb hw a hfb p e R s m args below meth c' hC' Z (hE' _ _ hE) T'.heap (locs ++ L1) ls hR' hL T' rfl X'
    exact ⟨t2, st t2 a1, b1'⟩
  · subst hq3
    subst hXC1
    have hR' := vx_keepZ hR h0 e1 hP1 hF hL1
    have hcov : covers (⟨0, ep, hp, 13⟩ : ExceptionTableEntry) pc = true := by simp [covers, hpc]
    have hlnk : (Cond.classLink "BesideAnotherLaw" 13 xE).before args s = true := hts _ xw_k
    have hvw := vx_catch (p := p) (l := g.1) (e := e) (R := R) (s := s) (m := m) (args := args) (below := below) (meth := meth) (c := c') (H := T'.heap) (locs := locs ++ L1) (cells := k1 + 1) (slots := k2 + 6) (Q := Z) (pc := pc) (ls := ls) (rest := rest.map (z_v g)) (q := q) (E := xE) (ce := ce) (name := xE) (own := "BesideAnotherLaw") (by rw [← hcls]; exact hown) [] ⟨0, ep, hp, 13⟩ [] htab (fun z hz => by cases hz) hcov (show (13 : Nat) ≠ 0 by decide) hlnk (va_Nw.use rfl (hXs.2.2.1 _ _ xw_c)) (by rw [e1]; exact hcell) hvm hcl
      (by
        have hfr : ∀ z ∈ z_vl g L, (!(z.1 == j) && !(z.1 + 1 == j && z.2.category == 2)) = true := by
          intro z hz
          simp only [z_vl, List.mem_map] at hz
          obtain ⟨z0, hz0, rfl⟩ := hz
          have := hfree z0 hz0
          simp only [z_cat]
          simp [this.1]
          by_cases h1 : z0.1 + 1 = j
          · exact Or.inr (fun h2 => this.2 ⟨h1, h2⟩)
          · exact Or.inl h1
        rcases hast with ⟨hast, rfl⟩ | ⟨jj, hast, hjj, rfl⟩
        · exact lv_astore (lv' := (j, Value.ref q) :: (z_vl g L).filter (fun z => !(z.1 == j) && !(z.1 + 1 == j && z.2.category == 2))) hx hb' hast hL hj rfl (fun ls' hl' => kx b hb hq1 a hfb p e R s m args below meth c' hC' Z (hE' _ _ hE) T'.heap (locs ++ L1) ls' hR' ⟨hl'.1, hl'.2.1, fun z hz => hl'.2.2 z (List.mem_cons_of_mem _ (List.mem_filter.mpr ⟨hz, hfr z hz⟩))⟩)
        · exact lv_astore_n (lv' := (j, Value.ref q) :: (z_vl g L).filter (fun z => !(z.1 == j) && !(z.1 + 1 == j && z.2.category == 2))) hx hb' hast hjj hL hj rfl (fun ls' hl' => kx b hb hq1 a hfb p e R s m args below meth c' hC' Z (hE' _ _ hE) T'.heap (locs ++ L1) ls' hR' ⟨hl'.1, hl'.2.1, fun z hz => hl'.2.2 z (List.mem_cons_of_mem _ (List.mem_filter.mpr ⟨hz, hfr z hz⟩))⟩))
    obtain ⟨t2, a1, b1'⟩ := hvw T' rfl X'
    exact ⟨t2, Steps.trans st a1, b1'⟩
end ZWrap
