-- thirty-six acts at most
section Z68
theorem pos_lo {D : ZD} {nb sp k m : Nat} {rm f : Nat → Nat} (hk : k < 3) (h : (pos D nb rm f sp k).testBit m = true) : (anyw f).testBit m = false := by
  unfold pos at h
  rw [if_neg (show ¬ k = 3 by omega)] at h
  split at h
  · rw [ndf_t, ndf_t] at h
    revert h
    cases (anyw f).testBit m
    · intro _; rfl
    · simp
  · rw [Nat.zero_testBit] at h; cases h
theorem pos_hi {D : ZD} {nb sp k m : Nat} {rm f : Nat → Nat} (hk : 3 < k) (h7 : k < 7) (h : (pos D nb rm f sp k).testBit m = true) : (anyw f).testBit m = true ∧ (f (k - 4)).testBit m = false := by
  have e : ktb k = k - 4 := by unfold ktb; split <;> omega
  unfold pos at h
  rw [if_neg (show ¬ k = 3 by omega)] at h
  split at h
  · rw [if_neg (show ¬ k < 3 by omega), Nat.testBit_and, ndf_t, e] at h
    revert h
    cases (anyw f).testBit m <;> cases (f (k - 4)).testBit m <;> simp
  · rw [Nat.zero_testBit] at h; cases h
theorem pos_3 {D : ZD} {nb sp : Nat} {rm f : Nat → Nat} : pos D nb rm f sp 3 = anyw f := by unfold pos; rw [if_pos rfl]
theorem seven (A f0 f1 f2 p0 p1 p2 p3 p4 p5 p6 : Bool) (hA : A = (f0 || f1 || f2)) (h0 : p0 = true → A = false) (h1 : p1 = true → A = false) (h2 : p2 = true → A = false) (h3 : p3 = A) (h4 : p4 = true → A = true ∧ f0 = false) (h5 : p5 = true → A = true ∧ f1 = false) (h6 : p6 = true → A = true ∧ f2 = false) : p0.toNat + p1.toNat + p2.toNat + p3.toNat + p4.toNat + p5.toNat + p6.toNat ≤ 3 := by
  subst h3
  cases p3
  · have e4 : p4 = false := by cases p4; rfl; exact absurd (h4 rfl).1 (by decide)
    have e5 : p5 = false := by cases p5; rfl; exact absurd (h5 rfl).1 (by decide)
    have e6 : p6 = false := by cases p6; rfl; exact absurd (h6 rfl).1 (by decide)
    rw [e4, e5, e6]
    cases p0 <;> cases p1 <;> cases p2 <;> decide
  · have e0 : p0 = false := by cases p0; rfl; exact absurd (h0 rfl) (by decide)
    have e1 : p1 = false := by cases p1; rfl; exact absurd (h1 rfl) (by decide)
    have e2 : p2 = false := by cases p2; rfl; exact absurd (h2 rfl) (by decide)
    rw [e0, e1, e2]
    by_cases c : p4 = true ∧ p5 = true ∧ p6 = true
    · obtain ⟨c4, c5, c6⟩ := c
      rw [(h4 c4).2, (h5 c5).2, (h6 c6).2] at hA
      exact absurd hA (by decide)
    · revert c
      cases p4 <;> cases p5 <;> cases p6 <;> decide
theorem posA_lo {a : ZA} {c k m : Nat} (hk : k < 3) (h : (posA a (dcd c) k).testBit m = true) : (anyw (dcd c)).testBit m = false := by
  unfold posA at h
  exact pos_lo hk h
theorem posA_hi {a : ZA} {c k m : Nat} (hk : 3 < k) (h7 : k < 7) (h : (posA a (dcd c) k).testBit m = true) : (anyw (dcd c)).testBit m = true ∧ (dcd c (k - 4)).testBit m = false := by
  unfold posA at h
  exact pos_hi hk h7 h
theorem posA_3 {a : ZA} {c : Nat} : posA a (dcd c) 3 = anyw (dcd c) := by
  unfold posA
  exact pos_3
theorem skd_len (a : ZA) (c kd k : Nat) : (skd a c kd (k + 1)).length = (skd a c kd k).length + ((posA a (dcd c) kd).testBit k).toNat := by
  rw [skd_s]
  cases (posA a (dcd c) kd).testBit k
  · rfl
  · rw [if_pos rfl, List.length_append]; rfl
theorem step7 : ∀ l0 l1 l2 l3 l4 l5 l6 b0 b1 b2 b3 b4 b5 b6 k : Nat, l0 + l1 + l2 + l3 + l4 + l5 + l6 ≤ 3 * k → b0 + b1 + b2 + b3 + b4 + b5 + b6 ≤ 3 → (l0 + b0) + (l1 + b1) + (l2 + b2) + (l3 + b3) + (l4 + b4) + (l5 + b5) + (l6 + b6) ≤ 3 * (k + 1) := by
  intros
  omega
end Z68
