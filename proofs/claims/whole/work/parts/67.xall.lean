-- the class's search: all states
section Z67
/-- the class, having searched -/
def SD (s u : ZSt) (a : ZA) (st : Nat) (Q : ZQ) (ed : Nat → List Nat) : Prop :=
  zE pxs s u ∧ XK u a.2.1.1 (aD a) a.2.1.2.2.2.2.2 st ∧ (∃ cell slot, XH u Q cell slot) ∧ (∀ k, k < Q.1 → okF a.2.1.1 (dcd (Q.2.1 k))) ∧
  (∀ j, j ≤ Q.1 → gi u 268 j = nI (qof ed j)) ∧ (∀ j e, j < Q.1 → e < (ed j).length → gi u 269 (qof ed j + e) = nI ((ed j).getD e 0))
def SDr (s : ZSt) (a : ZA) (st : Nat) (q : Option (ZQ × (Nat → List Nat))) (r : Bool × ZSt) : Prop := match q with
  | none => r.1 = false ∧ zE pxs s r.2 ∧ XK r.2 a.2.1.1 (aD a) a.2.1.2.2.2.2.2 st ∧ XS r.2
  | some (Q, ed) => r.1 = true ∧ SD s r.2 a st Q ed
theorem bfs_s (suc : Nat → List (Nat × Nat)) (m i : Nat) (Q : ZQ) (ed : Nat → List Nat) : bfs suc (m + 1) i Q ed = if i < Q.1 then (match bacts (suc (Q.2.1 i)) i Q [] with
    | none => none
    | some (Q', es) => bfs suc m (i + 1) Q' (ups ed i es)) else some (Q, ed) := rfl
theorem qof_ups (ed : Nat → List Nat) (i : Nat) (es : List Nat) (j : Nat) (h : j ≤ i) : qof (ups ed i es) j = qof ed j := by
  induction j with
  | zero => rfl
  | succ j ih =>
    show qof (ups ed i es) j + (ups ed i es j).length = qof ed j + (ed j).length
    rw [ih (by omega), ups_i, if_neg (by omega)]
theorem XK.fr8 {s t : ZSt} {nb st : Nat} {D : ZD} {rm : Nat → Nat} (h : XK s nb D rm st) (hE : zE (fun o _ => o == 268) s t) : XK t nb D rm st := by
  obtain ⟨a, b, c⟩ := h
  have hnb := a.2.1
  exact ⟨a.fr hE ⟨rfl, fun b hb => ⟨by simp <;> omega, by simp <;> omega, by simp <;> omega, by simp <;> omega, fun k => by simp <;> omega, fun k => by simp <;> omega⟩, fun t => rfl⟩, b.on (hE.i rfl) (fun i => hE.i rfl) (fun i => hE.i rfl), fun t ht => ⟨(hE.i rfl).trans (c t ht).1, (c t ht).2⟩⟩
theorem x_spread {n st : Nat} {a1 : Int32} {w : Nat → Bool} {s : ZSt} {a : ZA} {Q0 : ZQ} {cell slot : Nat → Nat}
    (hn : 20000 < n) (hnb : a.2.1.1 ≤ 12) (hB : XB s st a) (hX : XH s Q0 cell slot) (hQ : ∀ k, k < Q0.1 → okF a.2.1.1 (dcd (Q0.2.1 k)))
    (h36 : ∀ c, okF a.2.1.1 (dcd c) → (sucA a w c).length ≤ 36)
    (hw : ∀ k, k < 7 → (w k = true ↔ (a1 = -1 ∨ nI k = a1 ∨ k = 3))) :
    zT (f_S_spread n a1 s) (SDr s a st (bfs (sucA a w) 5001 0 Q0 (fun _ => []))) := by
  generalize hb0 : bfs (sucA a w) 5001 0 Q0 (fun _ => []) = B
  unfold f_S_spread
  refine zT.bnE (t_spent (by omega) hB) ?_
  have hl0 := hX.2.2.2.1.2.2
  refine zT.jnQ (fun y => ∃ Q ed, B = some (Q, ed) ∧ y.1 = nI (qof ed Q.1) ∧ zE pxs s y.2 ∧ XK y.2 a.2.1.1 (aD a) a.2.1.2.2.2.2.2 st ∧ (∃ cell slot, XH y.2 Q cell slot) ∧ (∀ k, k < Q.1 → okF a.2.1.1 (dcd (Q.2.1 k))) ∧ (∀ j, j < Q.1 → gi y.2 268 j = nI (qof ed j)) ∧ (∀ j e, j < Q.1 → e < (ed j).length → gi y.2 269 (qof ed j + e) = nI ((ed j).getD e 0))) ?_ ?_
  · rintro ⟨_, y⟩ ⟨Q, ed, hb, rfl, q1, q2, ⟨c, l, q3⟩, q4, q5, q6⟩
    dsimp only at *
    have hl := q3.2.2.2.1.2.2
    rw [q3.1]
    refine zT.gu (inb_n (by omega) (by decide)) ?_
    rw [sai_n _ _ _ (by omega)]
    have hE : zE (fun o _ => o == 268) y (si y 268 Q.1 (nI (qof ed Q.1))) := (zE.refl _ _).wi rfl
    refine zT.ltS (zT.ret ?_)
    rw [hb]
    refine ⟨rfl, q1.wi (by simp [pxs]), ?_, ⟨c, l, q3.fr hE (fun o j e => by simp at *; omega)⟩, q4, fun j hj => ?_, fun j e hj he => (hE.i rfl).trans (q6 j e hj he)⟩
    · exact q2.fr8 hE
    · rw [gi_i]
      by_cases e : j = Q.1
      · rw [if_pos ⟨rfl, e⟩, e]
      · rw [if_neg (fun w => e w.2)]; exact q5 j (by omega)
  · intro j5 hj5
    refine zT.cnt 5000 (fun i x => ∃ Q ed, B = bfs (sucA a w) (5001 - i) i Q ed ∧ i ≤ Q.1 ∧ x.1 = nI (qof ed i) ∧ x.2.1 = nI i ∧ zE pxs s x.2.2 ∧ XK x.2.2 a.2.1.1 (aD a) a.2.1.2.2.2.2.2 st ∧ (∃ cell slot, XH x.2.2 Q cell slot) ∧ (∀ k, k < Q.1 → okF a.2.1.1 (dcd (Q.2.1 k))) ∧ (∀ j, j < i → gi x.2.2 268 j = nI (qof ed j)) ∧ (∀ j e, j < i → e < (ed j).length → gi x.2.2 269 (qof ed j + e) = nI ((ed j).getD e 0)) ∧ qof ed i ≤ 36 * i) (by omega) ⟨Q0, fun _ => [], hb0.symm, Nat.zero_le _, rfl, rfl, zE.refl _ _, hB.1, ⟨cell, slot, hX⟩, hQ, fun j hj => absurd hj (Nat.not_lt_zero _), fun j e hj => absurd hj (Nat.not_lt_zero _), Nat.le_refl _⟩ ?_
    rintro j7 i ⟨_, _, y⟩ hi5 ⟨Q, ed, hb, hiQ, rfl, rfl, q1, q2, ⟨c, l, q3⟩, q4, q5, q6, q7⟩ hj7
    dsimp only at *
    have hl := q3.2.2.2.1.2.2
    rw [show 5001 - i = (5000 - i) + 1 by omega, bfs_s] at hb
    rw [q3.1]
    refine zT.ite (fun c1 => ?_) (fun c1 => ?_)
    · rw [nI_leI (by omega) (by omega)] at c1
      have e : i = Q.1 := by omega
      rw [if_neg (by omega)] at hb
      subst e
      exact hj5 _ ⟨Q, ed, hb, rfl, q1, q2, ⟨c, l, q3⟩, q4, q5, q6⟩
    · rw [nI_leI (by omega) (by omega)] at c1
      rw [if_pos (by omega)] at hb
      refine zT.ie (by rw [show (5000 : Int32) = nI 5000 from rfl, nI_leI (by omega) (by omega)]; omega) ?_
      refine zT.gu (inb_n (by omega) (by decide)) ?_
      rw [sai_n _ _ _ (by omega)]
      refine zT.ltS ?_
      have hE : zE (fun o _ => o == 268) y (si y 268 i (nI (qof ed i))) := (zE.refl _ _).wi rfl
      have hS : SX s (si y 268 i (nI (qof ed i))) a st i Q ed [] := by
        refine ⟨q1.wi (by simp [pxs]), q2.fr8 hE, ⟨c, l, q3.fr hE (fun o j e => by simp at *; omega)⟩, q4, fun j hj => ?_, fun j e hj he => (hE.i rfl).trans (q6 j e hj he), fun e he => absurd he (Nat.not_lt_zero _), by omega⟩
        rw [gi_i]
        by_cases e : j = i
        · rw [if_pos ⟨rfl, e⟩, e]
        · rw [if_neg (fun w => e w.2)]; exact q5 j (by omega)
      have hs36 := h36 (Q.2.1 i) (q4 i (by omega))
      refine xs_node (w := w) hn hnb hS rfl (by omega) (by omega) hw (fun v q e1 e2 e3 => ?_) (fun v Q' es q e1 => ?_)
      · rw [q] at hb
        rw [hb]
        exact ⟨rfl, e1, e2, e3⟩
      · rw [q] at hb
        obtain ⟨s1, s2, s3, s4, s5, s6, s7, s8⟩ := e1
        obtain ⟨b1, b2, b3⟩ := bacts_le _ _ _ _ _ q (by omega)
        rw [List.length_nil, Nat.zero_add] at b3
        have hqi : qof (ups ed i es) i = qof ed i := qof_ups ed i es i (Nat.le_refl _)
        have hq1 : qof (ups ed i es) (i + 1) = qof ed i + es.length := by
          show qof (ups ed i es) i + (ups ed i es i).length = _
          rw [hqi, ups_i, if_pos rfl]
        refine hj7 (by omega) _ ⟨Q', ups ed i es, ?_, b2, by rw [hq1], rfl, s1, s2, s3, s4, fun j hj => ?_, fun j e hj he => ?_, by rw [hq1]; omega⟩
        · rw [hb, show 5001 - (i + 1) = 5000 - i by omega]
        · dsimp only
          rw [qof_ups ed i es j (by omega)]
          exact s5 j (by omega)
        · dsimp only
          rw [ups_i] at he ⊢
          by_cases e2 : j = i
          · rw [if_pos e2] at he ⊢
            rw [e2, hqi]
            exact s7 e he
          · rw [if_neg e2] at he ⊢
            rw [qof_ups ed i es j (by omega)]
            exact s6 j e (by omega) he
end Z67
