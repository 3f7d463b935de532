-- states as numbers; what the class asks of what it found
section Z62
def dcd (c t : Nat) : Nat := (c >>> (12 * t)) % 4096
theorem dcd_lt (c t : Nat) : dcd c t < 4096 := Nat.mod_lt _ (by decide)
theorem dcd_S (c : Nat) : okS (dcd c) := ⟨dcd_lt c 0, dcd_lt c 1, dcd_lt c 2⟩
theorem dcd_t (c t i : Nat) : (dcd c t).testBit i = (decide (i < 12) && c.testBit (12 * t + i)) := by
  unfold dcd
  rw [show (4096 : Nat) = 2 ^ 12 from rfl, Nat.testBit_mod_two_pow, Nat.testBit_shiftRight]
theorem en_dcd {c : Nat} (h : c < 2 ^ 36) : en (dcd c) = c := by
  apply Nat.eq_of_testBit_eq
  intro i
  rw [en_t (dcd_S c), dcd_t, dcd_t, dcd_t]
  by_cases h1 : i < 12
  · rw [if_pos h1, decide_eq_true h1, Bool.true_and, show 12 * 0 + i = i by omega]
  · rw [if_neg h1]
    by_cases h2 : i < 24
    · rw [if_pos h2, decide_eq_true (show i - 12 < 12 by omega), Bool.true_and, show 12 * 1 + (i - 12) = i by omega]
    · rw [if_neg h2, show 12 * 2 + (i - 24) = i by omega]
      by_cases h3 : i < 36
      · rw [decide_eq_true (show i - 24 < 12 by omega), Bool.true_and]
      · rw [decide_eq_false (show ¬ i - 24 < 12 by omega), Bool.false_and, tb_big h (by omega)]
/-- all that are ever found -/
def qun (Q : ZQ) : Nat → Nat
  | 0 => 0
  | k + 1 => qun Q k ||| anyw (dcd (Q.2.1 k))
def qfw (Q : ZQ) (m : Nat) : Nat := ff (fun i => decide (ndf m (anyw (dcd (Q.2.1 i))) = 0)) Q.1
theorem any_c {c : Nat} (h : c < 2 ^ 36) : f_X_anywhere (lN c) = nI (anyw (dcd c)) := by
  have := any_e (dcd_S c)
  rw [en_dcd h] at this
  exact this
theorem anyw_lt (c : Nat) : anyw (dcd c) < 4096 := by
  unfold anyw
  exact or_lt (nb := 12) (or_lt (dcd_lt c 0) (dcd_lt c 1)) (dcd_lt c 2)
theorem qun_lt (Q : ZQ) (k : Nat) : qun Q k < 4096 := by
  induction k with
  | zero => exact (show (0 : Nat) < 4096 by decide)
  | succ k ih => exact or_lt (nb := 12) ih (anyw_lt _)
theorem qun_s (Q : ZQ) (k : Nat) : qun Q (k + 1) = qun Q k ||| anyw (dcd (Q.2.1 k)) := rfl
section
variable {s : ZSt} {Q : ZQ} {cell slot : Nat → Nat} {n : Nat}
theorem XH.union (hn : 20000 < n) (h : XH s Q cell slot) : f_S_union n s = some (nI (qun Q Q.1)) := by
  obtain ⟨h1, h2, h3, h4, h5⟩ := h
  have h50 := h4.2.2
  apply zT.eq
  unfold f_S_union
  refine zT.cnt 5000 (fun k x => k ≤ Q.1 ∧ x.1 = nI (qun Q k) ∧ x.2 = nI k) (by omega) ⟨Nat.zero_le _, rfl, rfl⟩ ?_
  rintro j k ⟨_, _⟩ hk ⟨hkQ, rfl, rfl⟩ hj
  dsimp only at *
  rw [h1]
  refine zT.ite (fun c => ?_) (fun c => ?_)
  · rw [nI_leI (by omega) (by omega)] at c
    have e : k = Q.1 := by omega
    rw [e]
    exact zT.ret rfl
  · rw [nI_leI (by omega) (by omega)] at c
    refine zT.gu (inb_n (by omega) (by decide)) ?_
    obtain ⟨g1, g2, _⟩ := h2 k (by omega)
    rw [al_n _ _ (by omega), g1, any_c g2, nI_or, nI_1]
    exact zT.ltS (zT.ltS (hj (by omega) _ ⟨by omega, by rw [qun_s], rfl⟩))
theorem XH.first {m : Nat} (hn : 20000 < n) (hm : m < 2 ^ 31) (h : XH s Q cell slot) : f_S_firstWith n (nI m) s = some (if qfw Q m < Q.1 then nI (qfw Q m) else -1) := by
  obtain ⟨h1, h2, h3, h4, h5⟩ := h
  have h50 := h4.2.2
  apply zT.eq
  unfold f_S_firstWith
  refine zT.cnt 5000 (fun k x => k ≤ Q.1 ∧ x = nI k ∧ ∀ i, i < k → decide (ndf m (anyw (dcd (Q.2.1 i))) = 0) = false) (by omega) ⟨Nat.zero_le _, rfl, fun i hi => absurd hi (Nat.not_lt_zero _)⟩ ?_
  rintro j k _ hk ⟨hkQ, rfl, f1⟩ hj
  rw [h1]
  refine zT.ite (fun c => ?_) (fun c => ?_)
  · rw [nI_leI (by omega) (by omega)] at c
    have e : k = Q.1 := by omega
    subst e
    have : qfw Q m = Q.1 := ff_no f1
    exact zT.ret (by rw [this, if_neg (Nat.lt_irrefl _)])
  · rw [nI_leI (by omega) (by omega)] at c
    refine zT.gu (inb_n (by omega) (by decide)) ?_
    obtain ⟨g1, g2, _⟩ := h2 k (by omega)
    have hle := ndf_le m (anyw (dcd (Q.2.1 k)))
    rw [al_n _ _ (by omega), g1, any_c g2, nI_andn]
    refine zT.ite (fun c2 => ?_) (fun c2 => ?_)
    · have c2 := (nI_eq (b := 0) (by omega) (by decide)).mp c2
      have : qfw Q m = k := ff_at (show k < Q.1 by omega) (decide_eq_true c2) f1
      exact zT.ret (by rw [this, if_pos (by omega)])
    · have c2 : ¬ ndf m (anyw (dcd (Q.2.1 k))) = 0 := fun w => c2 (by rw [w]; rfl)
      rw [nI_1]
      refine zT.ltS (hj (by omega) _ ⟨by omega, rfl, fun i hi => ?_⟩)
      by_cases e : i = k
      · rw [e]; exact decide_eq_false c2
      · exact f1 i (by omega)
theorem XH.far (h : XH s Q cell slot) : f_S_farthest s = some (if Q.1 = 0 then 0 else nI (Q.2.2.2.2 (Q.1 - 1))) := by
  obtain ⟨h1, h2, h3, h4, h5⟩ := h
  have h50 := h4.2.2
  apply zT.eq
  unfold f_S_farthest
  rw [h1]
  refine zT.ite (fun c => ?_) (fun c => ?_)
  · have c : Q.1 = 0 := by
      have := (nI_leI (b := 0) (by omega) (by decide)).mp c
      omega
    exact zT.ret (by rw [if_pos c])
  · have c : ¬ Q.1 = 0 := fun w => c (by rw [w]; decide)
    rw [show nI Q.1 - 1 = nI (Q.1 - 1) from by rw [show Q.1 = (Q.1 - 1) + 1 by omega, nI_pred, Nat.add_sub_cancel]]
    refine zT.gu (inb_n (by omega) (by decide)) (zT.ret ?_)
    rw [ai_n _ _ (by omega), (h2 (Q.1 - 1) (by omega)).2.2.2.2.1, if_neg c]
end
end Z62
