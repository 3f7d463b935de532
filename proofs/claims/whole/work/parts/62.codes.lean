-- states as numbers; what the class asks of what it found
section Z62
def dcd (c t : Nat) : Nat := (c >>> (12 * t)) % 4096
theorem dcd_lt (c t : Nat) : dcd c t < 4096 := Nat.mod_lt _ (by decide)
theorem dcd_S (c : Nat) : okS (dcd c) := ⟨dcd_lt c 0, dcd_lt c 1, dcd_lt c 2⟩
theorem dcd_t (c t i : Nat) : (dcd c t).testBit i = (decide (i < 12) && c.testBit (12 * t + i)) := by
  unfold dcd
  rw [show (4096 : Nat) = 2 ^ 12 from rfl, Nat.testBit_mod_two_pow, Nat.testBit_shiftRight]
theorem en_dcd {c : Nat} (h : c < 2 ^ 36) : en (dcd c) = c := by
  apply Nat.eq_of_testBit_eq
  intro i
  rw [en_t (dcd_S c), dcd_t, dcd_t, dcd_t]
  by_cases h1 : i < 12
  · rw [if_pos h1, decide_eq_true h1, Bool.true_and, show 12 * 0 + i = i by omega]
  · rw [if_neg h1]
    by_cases h2 : i < 24
    · rw [if_pos h2, decide_eq_true (show i - 12 < 12 by omega), Bool.true_and, show 12 * 1 + (i - 12) = i by omega]
    · rw [if_neg h2, show 12 * 2 + (i - 24) = i by omega]
      by_cases h3 : i < 36
      · rw [decide_eq_true (show i - 24 < 12 by omega), Bool.true_and]
      · rw [decide_eq_false (show ¬ i - 24 < 12 by omega), Bool.false_and, tb_big h (by omega)]
/-- all that are ever found -/
def qun (Q : ZQ) : Nat → Nat
  | 0 => 0
  | k + 1 => qun Q k ||| anyw (dcd (Q.2.1 k))
def qfw (Q : ZQ) (m : Nat) : Nat := ff (fun i => decide (ndf m (anyw (dcd (Q.2.1 i))) = 0)) Q.1
end Z62
