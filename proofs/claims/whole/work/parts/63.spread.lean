-- the search: what is found in what order
section Z63
/-- those that follow one state, each by its act, put in -/
def bacts : List (Nat × Nat) → Nat → ZQ → List Nat → Option (ZQ × List Nat)
  | [], _, Q, es => some (Q, es)
  | (a, c) :: r, i, Q, es => match qput Q c (nI i) (nI a) (Q.2.2.2.2 i + 1) with
    | none => none
    | some (k, Q') => bacts r i Q' (es ++ [k])
/-- from the i-th on, m of them at most -/
def bfs (suc : Nat → List (Nat × Nat)) : Nat → Nat → ZQ → (Nat → List Nat) → Option (ZQ × (Nat → List Nat))
  | 0, _, Q, ed => some (Q, ed)
  | m + 1, i, Q, ed => if i < Q.1 then (match bacts (suc (Q.2.1 i)) i Q [] with
    | none => none
    | some (Q', es) => bfs suc m (i + 1) Q' (ups ed i es)) else some (Q, ed)
/-- the acts of one kind, from the first k books -/
def skd (a : ZA) (c kind : Nat) : Nat → List (Nat × Nat)
  | 0 => []
  | k + 1 => if (posA a (dcd c) kind).testBit k = true then skd a c kind k ++ [(20 * kind + k, en (aft (aD a) a.2.1.1 (dcd c) (20 * kind + k)))] else skd a c kind k
/-- the acts of the first k kinds, of all tables or of one -/
def sks (a : ZA) (w : Nat → Bool) (c : Nat) : Nat → List (Nat × Nat)
  | 0 => []
  | k + 1 => if w k = true then sks a w c k ++ skd a c k 12 else sks a w c k
def sucA (a : ZA) (w : Nat → Bool) (c : Nat) : List (Nat × Nat) := sks a w c 7
/-- the kinds of one table's acts -/
def wtb (t : Nat) : Nat → Bool := fun k => k == t || k == 3
theorem qput_le {Q Q' : ZQ} {c d k : Nat} {f b : Int32} (h : qput Q c f b d = some (k, Q')) : Q.1 ≤ Q'.1 ∧ k < Q'.1 ∧ (∀ i, i < Q.1 → Q'.2.1 i = Q.2.1 i ∧ Q'.2.2.2.2 i = Q.2.2.2.2 i) := by
  unfold qput at h
  by_cases q : qat Q c < Q.1
  · rw [if_pos q] at h
    cases h
    exact ⟨Nat.le_refl _, q, fun i hi => ⟨rfl, rfl⟩⟩
  · rw [if_neg q] at h
    by_cases q2 : Q.1 < 5000
    · rw [if_pos q2] at h
      cases h
      refine ⟨Nat.le_succ _, Nat.lt_succ_self _, fun i hi => ⟨?_, ?_⟩⟩
      · show ups Q.2.1 Q.1 c i = _
        rw [ups_i, if_neg (by omega)]
      · show ups Q.2.2.2.2 Q.1 d i = _
        rw [ups_i, if_neg (by omega)]
    · rw [if_neg q2] at h
      cases h
theorem bacts_app (l r : List (Nat × Nat)) (i : Nat) : ∀ (Q : ZQ) (es : List Nat), bacts (l ++ r) i Q es = (match bacts l i Q es with
    | none => none
    | some (Q', es') => bacts r i Q' es') := by
  induction l with
  | nil => intro Q es; rfl
  | cons x l ih =>
    intro Q es
    obtain ⟨a, c⟩ := x
    show (match qput Q c (nI i) (nI a) (Q.2.2.2.2 i + 1) with
      | none => none
      | some (k, Q') => bacts (l ++ r) i Q' (es ++ [k])) = (match (match qput Q c (nI i) (nI a) (Q.2.2.2.2 i + 1) with
      | none => none
      | some (k, Q') => bacts l i Q' (es ++ [k])) with
      | none => none
      | some (Q', es') => bacts r i Q' es')
    cases qput Q c (nI i) (nI a) (Q.2.2.2.2 i + 1) with
    | none => rfl
    | some w => obtain ⟨k, Q'⟩ := w; exact ih Q' (es ++ [k])
end Z63
