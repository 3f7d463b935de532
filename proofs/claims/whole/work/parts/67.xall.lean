-- the class's search: all states
section Z67
/-- the class, having searched -/
def SD (s u : ZSt) (a : ZA) (st : Nat) (Q : ZQ) (ed : Nat → List Nat) : Prop :=
  zE pxs s u ∧ XK u a.2.1.1 (aD a) a.2.1.2.2.2.2.2 st ∧ (∃ cell slot, XH u Q cell slot) ∧ (∀ k, k < Q.1 → okF a.2.1.1 (dcd (Q.2.1 k))) ∧
  (∀ j, j ≤ Q.1 → gi u 268 j = nI (qof ed j)) ∧ (∀ j e, j < Q.1 → e < (ed j).length → gi u 269 (qof ed j + e) = nI ((ed j).getD e 0))
def SDr (s : ZSt) (a : ZA) (st : Nat) (q : Option (ZQ × (Nat → List Nat))) (r : Bool × ZSt) : Prop := match q with
  | none => r.1 = false ∧ zE pxs s r.2 ∧ XK r.2 a.2.1.1 (aD a) a.2.1.2.2.2.2.2 st ∧ XS r.2
  | some (Q, ed) => r.1 = true ∧ SD s r.2 a st Q ed
theorem bfs_s (suc : Nat → List (Nat × Nat)) (m i : Nat) (Q : ZQ) (ed : Nat → List Nat) : bfs suc (m + 1) i Q ed = if i < Q.1 then (match bacts (suc (Q.2.1 i)) i Q [] with
    | none => none
    | some (Q', es) => bfs suc m (i + 1) Q' (ups ed i es)) else some (Q, ed) := rfl
theorem qof_ups (ed : Nat → List Nat) (i : Nat) (es : List Nat) (j : Nat) (h : j ≤ i) : qof (ups ed i es) j = qof ed j := by
  induction j with
  | zero => rfl
  | succ j ih =>
    show qof (ups ed i es) j + (ups ed i es j).length = qof ed j + (ed j).length
    rw [ih (by omega), ups_i, if_neg (by omega)]
theorem x_spread {n st : Nat} {a1 : Int32} {w : Nat → Bool} {s : ZSt} {a : ZA} {Q0 : ZQ} {cell slot : Nat → Nat}
    (hn : 20000 < n) (hnb : a.2.1.1 ≤ 12) (hB : XB s st a) (hX : XH s Q0 cell slot) (hQ : ∀ k, k < Q0.1 → okF a.2.1.1 (dcd (Q0.2.1 k)))
    (h36 : ∀ c, okF a.2.1.1 (dcd c) → (sucA a w c).length ≤ 36)
    (hw : ∀ k, k < 7 → (w k = true ↔ (a1 = -1 ∨ nI k = a1 ∨ k = 3))) :
    zT (f_S_spread n a1 s) (SDr s a st (bfs (sucA a w) 5001 0 Q0 (fun _ => []))) := by
  unfold f_S_spread
  refine zT.bnE (t_spent (by omega) hB) ?_
  have hl0 := hX.2.2.2.1.2.2
  refine zT.jnQ (fun y => ∃ Q ed, bfs (sucA a w) 5001 0 Q0 (fun _ => []) = some (Q, ed) ∧ y.1 = nI (qof ed Q.1) ∧ zE pxs s y.2 ∧ XK y.2 a.2.1.1 (aD a) a.2.1.2.2.2.2.2 st ∧ (∃ cell slot, XH y.2 Q cell slot) ∧ (∀ k, k < Q.1 → okF a.2.1.1 (dcd (Q.2.1 k))) ∧ (∀ j, j < Q.1 → gi y.2 268 j = nI (qof ed j)) ∧ (∀ j e, j < Q.1 → e < (ed j).length → gi y.2 269 (qof ed j + e) = nI ((ed j).getD e 0))) ?_ ?_
  · rintro ⟨_, y⟩ ⟨Q, ed, hb, rfl, q1, q2, ⟨c, l, q3⟩, q4, q5, q6⟩
    dsimp only at *
    have hl := q3.2.2.2.1.2.2
    rw [q3.1]
    refine zT.gu (inb_n (by omega) (by decide)) ?_
    rw [sai_n _ _ _ (by omega)]
    have hE : zE (fun o _ => o == 268) y (si y 268 Q.1 (nI (qof ed Q.1))) := (zE.refl _ _).wi rfl
    refine zT.ltS (zT.ret ?_)
    rw [hb]
    refine ⟨rfl, q1.wi (by simp [pxs]), ?_, ⟨c, l, q3.fr hE (fun o j e => by simp at *; omega)⟩, q4, fun j hj => ?_, fun j e hj he => (hE.i rfl).trans (q6 j e hj he)⟩
    · sorry
    · rw [gi_i]
      by_cases e : j = Q.1
      · rw [if_pos ⟨rfl, e⟩, e]
      · rw [if_neg (fun w => e w.2)]; exact q5 j (by omega)
  · sorry
end Z67
