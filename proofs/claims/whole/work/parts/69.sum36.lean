-- thirty-six acts at most: the sum
section Z69
def bt7 (a : ZA) (c k kd : Nat) : Nat := ((posA a (dcd c) kd).testBit k).toNat
theorem bt7_le (a : ZA) (c k : Nat) : bt7 a c k 0 + bt7 a c k 1 + bt7 a c k 2 + bt7 a c k 3 + bt7 a c k 4 + bt7 a c k 5 + bt7 a c k 6 ≤ 3 := by
  unfold bt7
  have h0 : (posA a (dcd c) 0).testBit k = true → (anyw (dcd c)).testBit k = false := posA_lo (by decide)
  have h1 : (posA a (dcd c) 1).testBit k = true → (anyw (dcd c)).testBit k = false := posA_lo (by decide)
  have h2 : (posA a (dcd c) 2).testBit k = true → (anyw (dcd c)).testBit k = false := posA_lo (by decide)
  have h3 : (posA a (dcd c) 3).testBit k = (anyw (dcd c)).testBit k := by rw [posA_3]
  have h4 : (posA a (dcd c) 4).testBit k = true → (anyw (dcd c)).testBit k = true ∧ (dcd c 0).testBit k = false := posA_hi (by decide) (by decide)
  have h5 : (posA a (dcd c) 5).testBit k = true → (anyw (dcd c)).testBit k = true ∧ (dcd c 1).testBit k = false := posA_hi (by decide) (by decide)
  have h6 : (posA a (dcd c) 6).testBit k = true → (anyw (dcd c)).testBit k = true ∧ (dcd c 2).testBit k = false := posA_hi (by decide) (by decide)
  have hA : (anyw (dcd c)).testBit k = ((dcd c 0).testBit k || (dcd c 1).testBit k || (dcd c 2).testBit k) := by unfold anyw; rw [Nat.testBit_or, Nat.testBit_or]
  generalize (posA a (dcd c) 0).testBit k = p0 at *
  generalize (posA a (dcd c) 1).testBit k = p1 at *
  generalize (posA a (dcd c) 2).testBit k = p2 at *
  generalize (posA a (dcd c) 3).testBit k = p3 at *
  generalize (posA a (dcd c) 4).testBit k = p4 at *
  generalize (posA a (dcd c) 5).testBit k = p5 at *
  generalize (posA a (dcd c) 6).testBit k = p6 at *
  exact seven _ _ _ _ p0 p1 p2 p3 p4 p5 p6 hA h0 h1 h2 h3 h4 h5 h6
theorem stp7 : ∀ l0 l1 l2 l3 l4 l5 l6 b0 b1 b2 b3 b4 b5 b6 k : Nat, l0 + l1 + l2 + l3 + l4 + l5 + l6 ≤ 3 * k → b0 + b1 + b2 + b3 + b4 + b5 + b6 ≤ 3 → (l0 + b0) + (l1 + b1) + (l2 + b2) + (l3 + b3) + (l4 + b4) + (l5 + b5) + (l6 + b6) ≤ 3 * (k + 1) := by
  intros
  omega
def ln7 (a : ZA) (c k kd : Nat) : Nat := (skd a c kd k).length
theorem ln7_s (a : ZA) (c k kd : Nat) : ln7 a c (k + 1) kd = ln7 a c k kd + bt7 a c k kd := skd_len a c kd k
theorem ln7_0 (a : ZA) (c kd : Nat) : ln7 a c 0 kd = 0 := rfl
theorem ln7_sum (a : ZA) (c k : Nat) : ln7 a c k 0 + ln7 a c k 1 + ln7 a c k 2 + ln7 a c k 3 + ln7 a c k 4 + ln7 a c k 5 + ln7 a c k 6 ≤ 3 * k := by
  induction k with
  | zero => rw [ln7_0, ln7_0, ln7_0, ln7_0, ln7_0, ln7_0, ln7_0]; decide
  | succ k ih =>
    rw [ln7_s a c k 0, ln7_s a c k 1, ln7_s a c k 2, ln7_s a c k 3, ln7_s a c k 4, ln7_s a c k 5, ln7_s a c k 6]
    exact stp7 _ _ _ _ _ _ _ _ _ _ _ _ _ _ _ ih (bt7_le a c k)
theorem sks_len (a : ZA) (w : Nat → Bool) (c k : Nat) : (sks a w c (k + 1)).length ≤ (sks a w c k).length + ln7 a c 12 k := by
  unfold ln7
  rw [sks_s]
  split
  · rw [List.length_append]; exact Nat.le_refl _
  · exact Nat.le_add_right _ _
theorem sum7 : ∀ x0 x1 x2 x3 x4 x5 x6 y0 y1 y2 y3 y4 y5 y6 y7 : Nat, y0 = 0 → y1 ≤ y0 + x0 → y2 ≤ y1 + x1 → y3 ≤ y2 + x2 → y4 ≤ y3 + x3 → y5 ≤ y4 + x4 → y6 ≤ y5 + x5 → y7 ≤ y6 + x6 → x0 + x1 + x2 + x3 + x4 + x5 + x6 ≤ 3 * 12 → y7 ≤ 36 := by
  intros
  omega
theorem suc_36 (a : ZA) (w : Nat → Bool) (c : Nat) : (sucA a w c).length ≤ 36 :=
  sum7 (ln7 a c 12 0) (ln7 a c 12 1) (ln7 a c 12 2) (ln7 a c 12 3) (ln7 a c 12 4) (ln7 a c 12 5) (ln7 a c 12 6) (sks a w c 0).length (sks a w c 1).length (sks a w c 2).length (sks a w c 3).length (sks a w c 4).length (sks a w c 5).length (sks a w c 6).length (sks a w c 7).length rfl (sks_len a w c 0) (sks_len a w c 1) (sks_len a w c 2) (sks_len a w c 3) (sks_len a w c 4) (sks_len a w c 5) (sks_len a w c 6) (ln7_sum a c 12)
end Z69
