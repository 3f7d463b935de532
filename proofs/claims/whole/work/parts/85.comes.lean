-- comes, together, finish
section Z85
noncomputable def sOne (a : ZA) (t : Nat) : Option (ZQ × (Nat → List Nat)) := sch (sucA a (wtb t)) 0
theorem one_some {a : ZA} {t : Nat} (h : okA a) (ht : t < 3) : ∃ Q ed, sOne a t = some (Q, ed) ∧ qOK Q ∧ 0 < Q.1 ∧ ∀ k, k < Q.1 → onO a t (Q.2.1 k) := by
  have hnb := h.2.2.2.1
  have hcl := onO_suc (a := a) ht hnb
  cases q : sOne a t with
  | none => exact absurd (bfs_no (P := onO a t) hcl _ _ _ _ q (q1_OK 0) (q1_all (P := onO a t) onO_0)) (one_nb ht hnb)
  | some x =>
    obtain ⟨Q, ed⟩ := x
    obtain ⟨h1, h2, _⟩ := sch_some q
    obtain ⟨_, _, h3, _⟩ := bfs_sp (P := onO a t) hcl _ _ _ _ _ _ q (q1_OK 0) (by omega) (Nat.zero_le _) (q1_all (P := onO a t) onO_0) (fun j hj => absurd hj (Nat.not_lt_zero _))
    exact ⟨Q, ed, rfl, h1, h2, h3⟩
noncomputable def sComes (x : Int32) (a : ZA) : Int32 × ZA := if inb x 3 = true then (match sOne a x.toNatClampNeg with
  | none => (0, a)
  | some (Q, _) => sReach Q a) else (-1, a)
noncomputable def sTog (x y : Int32) (a : ZA) : Int32 × ZA := if inb x 3 = true ∧ inb y (2 ^ a.2.1.1) = true then (match sOne a x.toNatClampNeg with
  | none => (0, a)
  | some (Q, _) => sWay Q (qfw Q y.toNatClampNeg) a) else (-1, a)
def lfu (a : ZA) (y : Nat) : Nat → Nat
  | 0 => 0
  | k + 1 => if y.testBit k = true then lfu a y k ||| lef a k else lfu a y k
theorem lfu_s (a : ZA) (y k : Nat) : lfu a y (k + 1) = if y.testBit k = true then lfu a y k ||| lef a k else lfu a y k := rfl
theorem lfu_lt {a : ZA} (h : okA a) (y : Nat) : ∀ k, k ≤ a.2.2.1.1 → lfu a y k < 2 ^ a.2.1.1 := by
  intro k
  induction k with
  | zero => intro _; exact Nat.pow_pos (by decide)
  | succ k ih =>
    intro hk
    rw [lfu_s]
    split
    · exact or_lt (ih (by omega)) (lef_lt h (by omega))
    · exact ih (by omega)
noncomputable def sFin (x y : Int32) (a : ZA) : Int32 × ZA := if inb x 3 = true ∧ inb y (2 ^ a.2.2.1.1) = true then (match sOne a x.toNatClampNeg with
  | none => (0, a)
  | some (Q, _) => if ndf (lfu a y.toNatClampNeg a.2.2.1.1) (qun Q Q.1) = 0 then (1, putR a []) else (0, putR a [nI (ndf (lfu a y.toNatClampNeg a.2.2.1.1) (qun Q Q.1))])) else (-1, a)
/-- the class, having searched one table -/
theorem x_one {n T t : Nat} {s : ZSt} {a : ZA} {α : Type} {P : α → Prop} {k : ZSt → Option α} {Q : ZQ} {ed : Nat → List Nat} (hn : 20000 < n) (h : XX s T a) (hS : XS s) (ht : t < 3) (hq : sOne a t = some (Q, ed))
    (hk : ∀ u cl sl', zE pXS s u → XX u T a → XH u Q cl sl' → zT (k u) P) : zT (bn (f_X_searchTable n (nI t) s) k) P := by
  refine zT.bnT (x_table hn h hS ht) ?_
  rintro u ⟨b, hE, hX, _, hB⟩
  have hB : (match sOne a t with
    | none => b = false
    | some (Q, ed) => b = true ∧ XF u a Q ed) := hB
  rw [hq] at hB
  obtain ⟨_, ⟨cl, sl', hXH⟩, _⟩ := hB
  exact hk u cl sl' hE hX hXH
theorem x_comes {n T : Nat} {s : ZSt} {a : ZA} (x : Int32) (hn : 20000 < n) (h : XX s T a) (hS : XS s) : zT (f_X_comes n x s) (xPS (sComes x a).1 T (sComes x a).2 s) := by
  unfold f_X_comes sComes
  rw [inb_xTab]
  refine zT.ite (fun c => ?_) (fun c => ?_)
  · rw [if_pos c]
    obtain ⟨t, ht, rfl⟩ := (inb_iff (by omega)).mp c
    rw [nI_clamp (by omega)]
    obtain ⟨Q, ed, hq, hOK, h0, _⟩ := one_some h.1 ht
    rw [hq]
    refine x_one hn h hS ht hq (fun u cl sl' hE hX hXH => zT.bnT (x_tellReach hn hX hXH h0) ?_)
    rintro ⟨_, v⟩ ⟨rfl, hE3, hX3, hS3⟩
    exact zT.ret ⟨rfl, hE.trans hE3, hX3, hS3⟩
  · rw [if_neg c]
    exact zT.ret ⟨rfl, zE.refl _ _, h, hS⟩
theorem x_together {n T : Nat} {s : ZSt} {a : ZA} (x y : Int32) (hn : 20000 < n) (h : XX s T a) (hS : XS s) : zT (f_X_together n x y s) (xPS (sTog x y a).1 T (sTog x y a).2 s) := by
  have hnb := h.1.2.2.2.1
  have h12 := pw_12 hnb
  obtain ⟨hA, ⟨st, hst, hB0⟩, hO⟩ := id h
  unfold f_X_together sTog
  rw [inb_xTab, inb_beyond hB0.1.1.1 hnb]
  refine zT.ite (fun c => ?_) (fun c => ?_)
  rotate_left
  · rw [if_neg (fun w => c w.1)]
    exact zT.ret ⟨rfl, zE.refl _ _, h, hS⟩
  refine zT.ite (fun c2 => ?_) (fun c2 => ?_)
  · rw [if_neg (fun w => by rw [w.2] at c2; cases c2)]
    exact zT.ret ⟨rfl, zE.refl _ _, h, hS⟩
  have d2 : inb y (2 ^ a.2.1.1) = true := by cases q : inb y (2 ^ a.2.1.1); rw [q] at c2; exact absurd rfl c2; rfl
  rw [if_pos ⟨c, d2⟩]
  obtain ⟨t, ht, rfl⟩ := (inb_iff (by omega)).mp c
  obtain ⟨Y, hY, rfl⟩ := (inb_iff (by omega)).mp d2
  rw [nI_clamp (by omega), nI_clamp (by omega)]
  obtain ⟨Q, ed, hq, hOK, h0, _⟩ := one_some h.1 ht
  rw [hq]
  refine x_one hn h hS ht hq (fun u cl sl' hE hX hXH => zT.bnE (hXH.first hn (by omega)) (zT.bnT (x_tellWay hn hX hXH hOK (qfw_le Q _) rfl) ?_))
  rintro ⟨_, v⟩ ⟨rfl, hE3, hX3, hS3⟩
  exact zT.ret ⟨rfl, hE.trans hE3, hX3, hS3⟩
theorem x_fin {n T : Nat} {s : ZSt} {a : ZA} (x y : Int32) (hn : 20000 < n) (h : XX s T a) (hS : XS s) : zT (f_X_finish n x y s) (xPS (sFin x y a).1 T (sFin x y a).2 s) := by
  have hnb := h.1.2.2.2.1
  have hnr := h.1.2.2.2.2.2.1
  have h12 := pw_12 hnb
  have h6 : 2 ^ a.2.2.1.1 ≤ 2 ^ 6 := Nat.pow_le_pow_right (by decide) hnr
  obtain ⟨hA, ⟨st, hst, hB0⟩, hO⟩ := id h
  have h7 := hO.2.2.2.2.1.1
  generalize hr : sFin x y a = r
  unfold sFin at hr
  unfold f_X_finish
  rw [inb_xTab]
  refine zT.ite (fun c => ?_) (fun c => ?_)
  rotate_left
  · rw [if_neg (fun w => c w.1)] at hr
    subst hr
    exact zT.ret ⟨rfl, zE.refl _ _, h, hS⟩
  rw [h7]
  refine zT.ite (fun c2 => ?_) (fun c2 => ?_)
  rotate_left
  · rw [sr0 (by omega)] at c2
    rw [if_neg (fun w => c2 w.2)] at hr
    subst hr
    exact zT.ret ⟨rfl, zE.refl _ _, h, hS⟩
  rw [sr0 (by omega)] at c2
  rw [if_pos ⟨c, c2⟩] at hr
  obtain ⟨t, ht, rfl⟩ := (inb_iff (by omega)).mp c
  obtain ⟨Y, hY, rfl⟩ := (inb_iff (by omega)).mp c2
  rw [nI_clamp (by omega), nI_clamp (by omega)] at hr
  obtain ⟨Q, ed, hq, hOK, h0, _⟩ := one_some h.1 ht
  rw [hq] at hr
  dsimp only at hr
  refine zT.cnt 6 (fun k z => k ≤ a.2.2.1.1 ∧ z.1 = nI (lfu a Y k) ∧ z.2 = nI k) (by omega) ⟨Nat.zero_le _, rfl, rfl⟩ ?_
  rintro j k ⟨_, _⟩ hk ⟨hkn, rfl, rfl⟩ hj
  dsimp only at *
  have hl := lfu_lt h.1 Y k hkn
  refine zT.ite (fun c3 => ?_) (fun c3 => ?_)
  · rw [nI_leI (by omega) (by omega)] at c3
    have e : k = a.2.2.1.1 := by omega
    subst e
    refine x_one hn h hS ht hq (fun u cl sl' hE hX hXH => zT.bnE (hXH.union hn) ?_)
    have hle := ndf_le (lfu a Y a.2.2.1.1) (qun Q Q.1)
    rw [nI_andn]
    unfold f_X_tellMissing
    have hE1 : zE prx u (si u 1 13 0) := (zE.refl _ _).wi rfl
    refine zT.bnT (Q := xPS r.1 T r.2 s) (zT.ltS (zT.ite (fun c4 => ?_) (fun c4 => ?_))) (fun p hp => zT.ret hp)
    · have c4 := (nI_eq (b := 0) (by omega) (by decide)).mp c4
      rw [if_pos c4] at hr
      subst hr
      exact zT.ret ⟨rfl, hE.trans (prx_xS hE1), hX.put0, ⟨Q, cl, sl', hXH.prw hE1⟩⟩
    · have c4 : ¬ ndf (lfu a Y a.2.2.1.1) (qun Q Q.1) = 0 := fun w => c4 (by rw [w]; rfl)
      rw [if_neg c4] at hr
      subst hr
      refine zT.bnT (x_tel _ hX.put0 (by simp)) ?_
      rintro v ⟨hE2, hX2⟩
      exact zT.ret ⟨rfl, hE.trans (prx_xS (hE1.trans hE2)), hX2, ⟨Q, cl, sl', (hXH.prw hE1).prw hE2⟩⟩
  · rw [nI_leI (by omega) (by omega)] at c3
    refine zT.jnQ (fun z => z = nI (lfu a Y (k + 1))) ?_ ?_
    · rintro _ rfl
      rw [nI_1]
      exact zT.ltS (hj (by omega) _ ⟨by omega, rfl, rfl⟩)
    · intro j11 hj11
      rw [lfu_s] at hj11
      refine zT.ite (fun c4 => ?_) (fun c4 => ?_)
      · rw [bit0 (by omega) (by omega)] at c4
        exact hj11 _ (by rw [c4, if_neg (by decide)])
      · have c4 : Y.testBit k = true := by
          cases q : Y.testBit k
          · exact absurd ((bit0 (by omega) (by omega)).mpr q) c4
          · rfl
        refine zT.gu (inb_n (by omega) (by decide)) ?_
        rw [ra_r (by omega)]
        refine zT.bnE (x_left hA hO (show k < a.2.2.1.1 by omega)) (zT.ltS (hj11 _ ?_))
        rw [c4, if_pos rfl, nI_or]
        rfl
end Z85
