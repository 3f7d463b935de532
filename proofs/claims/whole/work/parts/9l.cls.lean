-- the classes' numbers at the start; the world behind the constructors as the walk over the store has it
section Z9l
theorem cls_ok {args : Array Value} {s : State} (hts : ∀ w ∈ lw_tbl, w.before args s = true) : ∃ D : va_G, ∀ (k : Nat) (q : vw_C), z_cls[k]? = some q → u_Kn s q.1 q.2.1 q.2.2 (D.1 k) (D.2 k) := by
  have hG : ∀ w ∈ GW, w.before args s = true := fun w hw => hts w (gw_t hw)
  have hk : ∀ k : Nat, ∃ p : ClassId × (Nat → Nat), ∀ q : vw_C, z_cls[k]? = some q → u_Kn s q.1 q.2.1 q.2.2 p.1 p.2 := by
    intro k
    rcases Nat.lt_or_ge k 10 with h | h
    · rcases (show k = 0 ∨ k = 1 ∨ k = 2 ∨ k = 3 ∨ k = 4 ∨ k = 5 ∨ k = 6 ∨ k = 7 ∨ k = 8 ∨ k = 9 by omega) with rfl | rfl | rfl | rfl | rfl | rfl | rfl | rfl | rfl | rfl
      · obtain ⟨a, i, hh⟩ := u_known (C := z_R0) (T := z_F0) (N := 6) (n := 6) hG z_C0.2.1 (hts _ (t_w 91 (by decide +kernel)))
        exact ⟨(a, i), fun q hq => by cases hq; exact hh⟩
      · obtain ⟨a, i, hh⟩ := u_known (C := z_R1) (T := z_F1) (N := 3) (n := 3) hG z_C1.2.1 (hts _ (t_w 37 (by decide +kernel)))
        exact ⟨(a, i), fun q hq => by cases hq; exact hh⟩
      · obtain ⟨a, i, hh⟩ := u_known (C := z_R2) (T := z_F2) (N := 9) (n := 9) hG z_C2.2.1 (hts _ (t_w 243 (by decide +kernel)))
        exact ⟨(a, i), fun q hq => by cases hq; exact hh⟩
      · obtain ⟨a, i, hh⟩ := u_known (C := z_R3) (T := z_F3) (N := 4) (n := 4) hG z_C3.2.1 (hts _ (t_w 221 (by decide +kernel)))
        exact ⟨(a, i), fun q hq => by cases hq; exact hh⟩
      · obtain ⟨a, i, hh⟩ := u_known (C := z_R4) (T := z_F4) (N := 10) (n := 10) hG z_C4.2.1 (hts _ (t_w 145 (by decide +kernel)))
        exact ⟨(a, i), fun q hq => by cases hq; exact hh⟩
      · obtain ⟨a, i, hh⟩ := u_known (C := z_R5) (T := z_F5) (N := 5) (n := 5) hG z_C5.2.1 (hts _ (t_w 189 (by decide +kernel)))
        exact ⟨(a, i), fun q hq => by cases hq; exact hh⟩
      · obtain ⟨a, i, hh⟩ := u_known (C := z_R6) (T := z_F6) (N := 6) (n := 6) hG z_C6.2.1 (hts _ (t_w 84 (by decide +kernel)))
        exact ⟨(a, i), fun q hq => by cases hq; exact hh⟩
      · obtain ⟨a, i, hh⟩ := u_known (C := z_R7) (T := z_F7) (N := 8) (n := 8) hG z_C7.2.1 (hts _ (t_w 31 (by decide +kernel)))
        exact ⟨(a, i), fun q hq => by cases hq; exact hh⟩
      · obtain ⟨a, i, hh⟩ := u_known (C := z_R8) (T := z_F8) (N := 19) (n := 19) hG z_C8.2.1 (hts _ (t_w 23 (by decide +kernel)))
        exact ⟨(a, i), fun q hq => by cases hq; exact hh⟩
      · obtain ⟨a, i, hh⟩ := u_known (C := z_R9) (T := z_F9) (N := 53) (n := 53) hG z_C9.2.1 (hts _ (t_w 932 (by decide +kernel)))
        exact ⟨(a, i), fun q hq => by cases hq; exact hh⟩
    · exact ⟨(0, fun _ => 0), fun q hq => by rw [List.getElem?_eq_none (show z_cls.length ≤ k from h)] at hq; cases hq⟩
  obtain ⟨pk, hpk⟩ := Classical.axiomOfChoice hk
  exact ⟨(fun k => (pk k).1, fun k => (pk k).2), fun k q hq => hpk k q hq⟩
theorem arr_p {args : Array Value} {s : State} {t : FieldType} (hp : ∀ C, t ≠ .object C) (h : (Cond.arrayClass t).before args s = true) : ∃ cA : ClassId, ArrOfT s cA t ∧ va_RA s cA t := by
  obtain ⟨c, k, comp, h1, h2, h3⟩ := Cond.arrayClass_spec h
  refine ⟨c, fun n z => ⟨fun k h => (by cases h), k, h2, comp, h3⟩, ?_⟩
  cases t with
  | object C => exact absurd rfl (hp C)
  | _ => exact h1
theorem arr_r {args : Array Value} {s : State} {C : String} (h : (Cond.arrayOver (.object C)).before args s = true) : ∃ cA : ClassId, ArrOfT s cA (.object C) ∧ va_RA s cA (.object C) := by
  obtain ⟨comp, c, k, h1, h2, h3, h4, h5⟩ := Cond.arrayOver_spec h
  exact ⟨c, fun n z => ⟨fun k h => (by cases h), k, h3, comp, h4⟩, k, comp, h3, h4, h1, h5⟩
theorem arrs_ok {args : Array Value} {s : State} (hts : ∀ w ∈ lw_tbl, w.before args s = true) : ∃ A : Nat → ClassId, ∀ (k : Nat) (q : ClassId × FieldType), ([(A 0, .int), (A 1, .long), (A 2, .boolean), (A 3, .object z_R0), (A 4, .object z_R3), (A 5, .object z_R2)] : List (ClassId × FieldType))[k]? = some q → ArrOfT s q.1 q.2 ∧ va_RA s q.1 q.2 := by
  obtain ⟨c0, h0⟩ := arr_p (fun C h => by cases h) (hts (.arrayClass .int) (t_w 52 (by decide +kernel)))
  obtain ⟨c1, h1⟩ := arr_p (fun C h => by cases h) (hts (.arrayClass .long) (t_w 187 (by decide +kernel)))
  obtain ⟨c2, h2⟩ := arr_p (fun C h => by cases h) (hts (.arrayClass .boolean) (t_w 1570 (by decide +kernel)))
  obtain ⟨c3, h3⟩ := arr_r (hts (.arrayOver (.object z_R0)) (t_w 90 (by decide +kernel)))
  obtain ⟨c4, h4⟩ := arr_r (hts (.arrayOver (.object z_R3)) (t_w 218 (by decide +kernel)))
  obtain ⟨c5, h5⟩ := arr_r (hts (.arrayOver (.object z_R2)) (t_w 220 (by decide +kernel)))
  refine ⟨fun k => if k = 0 then c0 else if k = 1 then c1 else if k = 2 then c2 else if k = 3 then c3 else if k = 4 then c4 else c5, fun k q hq => ?_⟩
  rcases Nat.lt_or_ge k 6 with h | h
  · rcases (show k = 0 ∨ k = 1 ∨ k = 2 ∨ k = 3 ∨ k = 4 ∨ k = 5 by omega) with rfl | rfl | rfl | rfl | rfl | rfl
    · cases hq; exact h0
    · cases hq; exact h1
    · cases hq; exact h2
    · cases hq; exact h3
    · cases hq; exact h4
    · cases hq; exact h5
  · exact absurd (List.getElem?_eq_some_iff.mp hq).1 (Nat.not_lt.mpr h)
theorem zA_ge {g : ZG} {sz q : Nat} (hA : hasA g sz) (h : z_A g sz q) : sz ≤ q := by
  rcases h with ⟨o, ho, rfl⟩ | h
  · obtain ⟨p, hp⟩ := List.getElem?_of_mem (mk_all o ho)
    rw [hA p o hp]
    exact Nat.le_add_right _ _
  · exact h
theorem start_ZR {g : ZG} {s : State} {H : Heap} {locs : List Loc} (hA : hasA g s.heap.size) (h : BR g s.heap.size s (kX g s.heap.size ++ kM g (s.heap.size + 142) ++ [bJ g 1]) H locs) : ZR g s s0 H locs := by
  obtain ⟨hP, hz, hS⟩ := h
  refine ⟨world_ok hA (fun i e he => hP i _ (bW_at he)), world_D hA (fun q hq => Or.inr hq), hS.1, fun q hq hn => hS.2.1 q hq (Nat.not_le.mpr hq), fun l hl => Or.inr (hS.2.2 l hl)⟩
theorem vkS_c {N : Nat} {len : List Nat} {byt : List (List Int32)} {aK aV aK' aV' : Nat → Nat} {A : Nat → Prop} {U : State} {H : Heap} (h : vk_S N len byt aK aV A U H) (h1 : ∀ i, i < N → aK' i = aK i) (h2 : ∀ i, i < N → aV' i = aV i) : vk_S N len byt aK' aV' A U H :=
  ⟨fun i hi => by rw [h1 i hi, h2 i hi]; exact h.1 i hi, fun i j hi hj e => h.2 i j hi hj (by rw [← h1 i hi, ← h1 j hj]; exact e)⟩
theorem start_g {l : Launch} {args : Array Value} {s : State} {b : Nat} (hflags : l.flags = flags0) (hts : ∀ w ∈ lw_tbl, w.before args s = true) (hgv : (Jvm.Cond.and given_1 narrow_1).before args s = true) (hb : b < s.heap.size) :
    ∃ g : ZG, g.1 = l ∧ hasA g s.heap.size ∧ g.2.2.2 600 = b ∧ va_K g.2.1 z_cls (z_tys g) s ∧ ZX g s ∧ BX s := by
  obtain ⟨D, hD⟩ := cls_ok hts
  obtain ⟨Ar, hAr⟩ := arrs_ok hts
  obtain ⟨aK, aV, aM, v, k1, k2, k3, k4, hv, k5, k6, k7⟩ := given_ok (A := fun q => s.heap.size ≤ q) hts hgv (fun a ha => Nat.not_le.mpr ha)
  obtain ⟨t, ht⟩ : ∃ t : Nat, v = .null ∨ v = .ref t := by
    rcases hv with h | ⟨t, h⟩
    · exact ⟨0, Or.inl h⟩
    · exact ⟨t, Or.inr h⟩
  obtain ⟨ad, d1, d2, d3, d4, d5, d6⟩ := ad_ex s.heap.size b t aK aV aM
  have hA : hasA (l, D, Ar, ad) s.heap.size := d1
  have hn : ∀ q, z_A (l, D, Ar, ad) s.heap.size q → s.heap.size ≤ q := fun q h => zA_ge hA h
  have hT : ∀ w ∈ tables_1, w.before args s = true := fun w hw => hts w (List.mem_append_right _ hw)
  refine ⟨(l, D, Ar, ad), rfl, hA, d2, ⟨hD, hAr⟩, ⟨fun own ix x h hm => va_Nw.of rfl (hT _ hm), fun x hm => va_Nw.of rfl (hT _ hm), fun x y hm => (hT _ hm), (vkS_c k1 (fun i hi => d3 i (by omega)) (fun i hi => d4 i (by omega))).narrow hn, fun i q hq => ?_, fun i q hq => ?_, k4.narrow hn, ?_, k6.narrow hn, k7.narrow hn, tr_ok hflags⟩, fun own ix x h hm => va_Nw.of rfl (hT _ hm), fun C hm => va_AO.of (hT _ hm)⟩
  · show vk_R z_R9 q.1 q.2.1 (ad (700 + i)) s
    rw [d3 i (by have := (z_txn hq).1; omega)]
    exact k2 i q hq
  · show vk_R z_R8 q.1 q.2 (ad (740 + i)) s
    rw [d5 i (by have := (z_tsn hq).1; omega)]
    exact k3 i q hq
  · rcases ht with rfl | rfl
    · exact ⟨.null, Or.inl rfl, k5.narrow hn⟩
    · refine ⟨.ref 760, Or.inr rfl, ?_⟩
      have e : z_v (l, D, Ar, ad) (.ref 760) = .ref t := congrArg Value.ref d6
      rw [e]
      exact k5.narrow hn
end Z9l
