-- thirty-six acts at most: the sum
section Z69
def bt7 (a : ZA) (c k kd : Nat) : Nat := ((posA a (dcd c) kd).testBit k).toNat
theorem bt7_le (a : ZA) (c k : Nat) : bt7 a c k 0 + bt7 a c k 1 + bt7 a c k 2 + bt7 a c k 3 + bt7 a c k 4 + bt7 a c k 5 + bt7 a c k 6 ≤ 3 := by
  unfold bt7
  have h0 : (posA a (dcd c) 0).testBit k = true → (anyw (dcd c)).testBit k = false := posA_lo (by decide)
  have h1 : (posA a (dcd c) 1).testBit k = true → (anyw (dcd c)).testBit k = false := posA_lo (by decide)
  have h2 : (posA a (dcd c) 2).testBit k = true → (anyw (dcd c)).testBit k = false := posA_lo (by decide)
  have h3 : (posA a (dcd c) 3).testBit k = (anyw (dcd c)).testBit k := by rw [posA_3]
  have h4 : (posA a (dcd c) 4).testBit k = true → (anyw (dcd c)).testBit k = true ∧ (dcd c 0).testBit k = false := posA_hi (by decide) (by decide)
  have h5 : (posA a (dcd c) 5).testBit k = true → (anyw (dcd c)).testBit k = true ∧ (dcd c 1).testBit k = false := posA_hi (by decide) (by decide)
  have h6 : (posA a (dcd c) 6).testBit k = true → (anyw (dcd c)).testBit k = true ∧ (dcd c 2).testBit k = false := posA_hi (by decide) (by decide)
  have hA : (anyw (dcd c)).testBit k = ((dcd c 0).testBit k || (dcd c 1).testBit k || (dcd c 2).testBit k) := by unfold anyw; rw [Nat.testBit_or, Nat.testBit_or]
  generalize (posA a (dcd c) 0).testBit k = p0 at *
  generalize (posA a (dcd c) 1).testBit k = p1 at *
  generalize (posA a (dcd c) 2).testBit k = p2 at *
  generalize (posA a (dcd c) 3).testBit k = p3 at *
  generalize (posA a (dcd c) 4).testBit k = p4 at *
  generalize (posA a (dcd c) 5).testBit k = p5 at *
  generalize (posA a (dcd c) 6).testBit k = p6 at *
  exact seven _ _ _ _ p0 p1 p2 p3 p4 p5 p6 hA h0 h1 h2 h3 h4 h5 h6
end Z69
