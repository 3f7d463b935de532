-- the class's search: placing
section Z61
theorem pl_read (s : ZSt) (m p : Nat) (c : Int64) (f a d pv lv : Int32) :
    gi (si (si (si (si (si (si (sl s 260 m c) 261 m f) 262 m a) 263 m d) 267 m pv) 202 5 lv) 266 p lv) 202 5 = lv ∧
    (∀ i, gl (si (si (si (si (si (si (sl s 260 m c) 261 m f) 262 m a) 263 m d) 267 m pv) 202 5 lv) 266 p lv) 260 i = if i = m then c else gl s 260 i) ∧
    (∀ i, gi (si (si (si (si (si (si (sl s 260 m c) 261 m f) 262 m a) 263 m d) 267 m pv) 202 5 lv) 266 p lv) 261 i = if i = m then f else gi s 261 i) ∧
    (∀ i, gi (si (si (si (si (si (si (sl s 260 m c) 261 m f) 262 m a) 263 m d) 267 m pv) 202 5 lv) 266 p lv) 262 i = if i = m then a else gi s 262 i) ∧
    (∀ i, gi (si (si (si (si (si (si (sl s 260 m c) 261 m f) 262 m a) 263 m d) 267 m pv) 202 5 lv) 266 p lv) 263 i = if i = m then d else gi s 263 i) ∧
    (∀ i, gi (si (si (si (si (si (si (sl s 260 m c) 261 m f) 262 m a) 263 m d) 267 m pv) 202 5 lv) 266 p lv) 267 i = if i = m then pv else gi s 267 i) ∧
    (∀ q, gi (si (si (si (si (si (si (sl s 260 m c) 261 m f) 262 m a) 263 m d) 267 m pv) 202 5 lv) 266 p lv) 266 q = if q = p then lv else gi s 266 q) := by
  simp [gi_i, gi_l, gl_i, gl_l]
theorem pl_ups {α β : Type} (F : α → β) {m i : Nat} {g : Nat → α} {v : α} {w : β} (h : i < m → w = F (g i)) (hi : i < m + 1) : (if i = m then F v else w) = F (ups g m v i) := by
  rw [ups_i]
  by_cases e : i = m
  · rw [if_pos e, if_pos e]
  · rw [if_neg e, if_neg e]; exact h (by omega)
theorem XH.place {s : ZSt} {Q : ZQ} {cell slot : Nat → Nat} {n c d : Nat} {f a : Int32} (hn : 20000 < n) (hc : c < 2 ^ 36) (h : XH s Q cell slot) (hd : (f = -1 ∧ d = 0) ∨ ∃ i, i < Q.1 ∧ f = nI i ∧ d = Q.2.2.2.2 i + 1) : zT (f_S_place n (lN c) f a s) (pqP s (qput Q c f a d)) := by
  unfold f_S_place
  refine zT.bnT (h.find hn hc) ?_
  rintro _ ⟨k, rfl, w1, w2⟩
  obtain ⟨h1, h2, h3, h4, h5⟩ := id h
  have h50 := h4.2.2
  have hp : (hX c + k) % 16384 < 16384 := Nat.mod_lt _ (by decide)
  have key1 : cell ((hX c + k) % 16384) = 0 → ∀ i, i < Q.1 → Q.2.1 i ≠ c := fun c0 => h4.miss c0 w1
  have key2 : cell ((hX c + k) % 16384) = 0 → Q.1 < 5000 → HT hX (ups cell ((hX c + k) % 16384) (Q.1 + 1)) (ups slot Q.1 ((hX c + k) % 16384)) (ups Q.2.1 Q.1 c) (Q.1 + 1) := fun c0 c1 => h4.add c1 c0 (fun j hj => (w1 j hj).1)
  generalize hpe : (hX c + k) % 16384 = p at w2 key1 key2 hp ⊢
  clear hpe w1
  obtain ⟨l1, l2⟩ := h4.1 _ hp
  refine zT.gu (inb_n hp (by decide)) ?_
  rw [ai_n _ _ (by omega), h3 _ hp]
  refine zT.ite (fun c0 => ?_) (fun c0 => ?_)
  · have c0 : cell p = 0 := by
      have := (nI_leI (b := 0) (by omega) (by decide)).mp c0
      omega
    have hmiss := key1 c0
    have hq : qat Q c = Q.1 := qat_no hmiss
    have hqp : qput Q c f a d = if Q.1 < 5000 then some (Q.1, qadd Q c f a d) else none := by unfold qput; rw [hq, if_neg (Nat.lt_irrefl _)]
    rw [h1]
    refine zT.ite (fun c1 => ?_) (fun c1 => ?_)
    · rw [show (5000 : Int32) = nI 5000 from rfl, nI_ltI (by omega) (by omega)] at c1
      rw [hqp, if_pos c1]
      have hi : inb (nI Q.1) 5000 = true := inb_n c1 (by decide)
      refine zT.gu hi ?_
      rw [sal_n _ _ _ (by omega)]
      refine zT.ltS ?_
      rw [show gi (sl s 260 Q.1 (lN c)) 202 5 = gi s 202 5 from rfl, h1]
      refine zT.gu hi ?_
      rw [sai_n _ _ _ (by omega)]
      refine zT.ltS ?_
      rw [show gi (si (sl s 260 Q.1 (lN c)) 261 Q.1 f) 202 5 = gi s 202 5 from rfl, h1]
      refine zT.gu hi ?_
      rw [sai_n _ _ _ (by omega)]
      refine zT.ln (fun s10 hs10 => ?_)
      have g10 : gi s10 202 5 = nI Q.1 := by rw [hs10]; exact h1
      have hE10 : zE pxq s s10 := by rw [hs10]; exact (((zE.refl _ _).wl rfl).wi rfl).wi rfl
      refine zT.jnQ (fun y => y = nI d) ?_ ?_
      · rintro _ rfl
        rw [g10]
        refine zT.gu hi ?_
        rw [sai_n _ _ _ (by omega)]
        refine zT.ltS ?_
        rw [show gi (si s10 263 Q.1 (nI d)) 202 5 = gi s10 202 5 from rfl, g10]
        refine zT.gu hi ?_
        rw [sai_n _ _ _ (by omega)]
        refine zT.ltS ?_
        rw [show gi (si (si s10 263 Q.1 (nI d)) 267 Q.1 (nI (p))) 202 5 = gi s10 202 5 from rfl, g10, nI_1]
        refine zT.ltS ?_
        rw [sai_n _ _ _ (by omega), show gi (si (si (si s10 263 Q.1 (nI d)) 267 Q.1 (nI (p))) 202 5 (nI (Q.1 + 1))) 202 5 = nI (Q.1 + 1) from rfl]
        refine zT.ltS (zT.ret ⟨hE10.trans ((((zE.refl _ _).wi rfl).wi rfl).wi rfl |>.wi rfl), ?_, Nat.lt_succ_self _, ups cell p (Q.1 + 1), ups slot Q.1 (p), ?_⟩)
        · show gi _ 202 5 - 1 = _
          rw [gi_i, if_neg (by omega), gi_i, if_pos ⟨rfl, rfl⟩, nI_pred]
        · obtain ⟨z1, z2, z3, z4, z5, z6, z7⟩ := pl_read s Q.1 p (lN c) f a (nI d) (nI p) (nI (Q.1 + 1))
          rw [← hs10] at z1 z2 z3 z4 z5 z6 z7
          refine ⟨z1, fun i hi => ⟨(z2 i).trans ?_, ?_, (z3 i).trans ?_, (z4 i).trans ?_, (z5 i).trans ?_, (z6 i).trans ?_⟩, fun p' hp' => (z7 p').trans ?_, key2 c0 c1, qds_add h5 hmiss⟩
          · exact pl_ups lN (fun hi' => (h2 i hi').1) hi
          · show ups Q.2.1 Q.1 c i < 2 ^ 36
            rw [ups_i]
            by_cases e : i = Q.1
            · rw [if_pos e]; exact hc
            · rw [if_neg e]; exact (h2 i (Nat.lt_of_le_of_ne (Nat.le_of_lt_succ hi) e)).2.1
          · exact pl_ups (fun x => x) (fun hi' => (h2 i hi').2.2.1) hi
          · exact pl_ups (fun x => x) (fun hi' => (h2 i hi').2.2.2.1) hi
          · exact pl_ups nI (fun hi' => (h2 i hi').2.2.2.2.1) hi
          · exact pl_ups nI (fun hi' => (h2 i hi').2.2.2.2.2) hi
          · rw [ups_i]
            by_cases e : p' = p
            · rw [if_pos e, if_pos e]
            · rw [if_neg e, if_neg e]; exact h3 p' hp'
      · intro j18 hj18
        rcases hd with ⟨e1, e2⟩ | ⟨i, hi2, e1, e2⟩
        · refine zT.it e1 (hj18 _ (by rw [e2]; rfl))
        · refine zT.ie (by rw [e1]; exact nI_nm1 (by omega)) (zT.gu (by rw [e1]; exact inb_n (by omega) (by decide)) (hj18 _ ?_))
          rw [e1, ai_n _ _ (by omega), hs10, gi_i, if_neg (by omega), gi_i, if_neg (by omega), gi_l, (h2 i hi2).2.2.2.2.1, nI_1, ← e2]
    · rw [show (5000 : Int32) = nI 5000 from rfl, nI_ltI (by omega) (by omega)] at c1
      rw [hqp, if_neg c1]
      exact zT.ret ⟨zE.refl _ _, rfl, Q, cell, slot, h⟩
  · have c0 : cell p ≠ 0 := fun w => c0 (by rw [w]; decide)
    have e := w2 c0
    have hq : qat Q c = cell p - 1 := by
      have := qat_in h5 (i := cell p - 1) (by omega)
      rw [e] at this
      exact this
    have hqp : qput Q c f a d = some (cell p - 1, Q) := by unfold qput; rw [hq, if_pos (by omega)]
    rw [hqp]
    refine zT.ret ⟨zE.refl _ _, ?_, by omega, cell, slot, h⟩
    show nI (cell p) - 1 = nI (cell p - 1)
    rw [show cell p = (cell p - 1) + 1 by omega, nI_pred, Nat.add_sub_cancel]
end Z61
