-- the class's search: one act from one state
section Z64
theorem dcd_en {f : Nat → Nat} (h : okS f) {t : Nat} (ht : t < 3) : dcd (en f) t = f t := by
  apply Nat.eq_of_testBit_eq
  intro i
  rw [dcd_t, en_t h]
  obtain ⟨h0, h1, h2⟩ := h
  by_cases hi : i < 12
  · rw [decide_eq_true hi, Bool.true_and]
    rcases (show t = 0 ∨ t = 1 ∨ t = 2 by omega) with rfl | rfl | rfl
    · rw [if_pos (by omega), show 12 * 0 + i = i by omega]
    · rw [if_neg (by omega), if_pos (by omega), show 12 * 1 + i - 12 = i by omega]
    · rw [if_neg (by omega), if_neg (by omega), show 12 * 2 + i - 24 = i by omega]
  · rw [decide_eq_false hi, Bool.false_and]
    have : f t < 2 ^ 12 := by
      rcases (show t = 0 ∨ t = 1 ∨ t = 2 by omega) with rfl | rfl | rfl
      · exact h0
      · exact h1
      · exact h2
    rw [tb_big this (by omega)]
theorem okF_dcd {nb : Nat} {f : Nat → Nat} (h : okF nb f) (hn : nb ≤ 12) : okF nb (dcd (en f)) := by
  have hS := h.S hn
  refine ⟨fun t ht => by rw [dcd_en hS ht]; exact h.1 t ht, fun i => ?_⟩
  rw [dcd_en hS (by decide), dcd_en hS (by decide), dcd_en hS (by decide)]
  exact h.2 i
/-- where a state's edges begin -/
def qof (ed : Nat → List Nat) : Nat → Nat
  | 0 => 0
  | j + 1 => qof ed j + (ed j).length
def pxs : Nat → Nat → Bool := fun o j => o == 243 || o == 244 || (decide (440 ≤ o) && decide (o < 475)) || (o == 202 && j == 5) || (decide (260 ≤ o) && decide (o < 270))
theorem pmb_xs {s t : ZSt} (h : zE pmb s t) : zE pxs s t := h.mono (fun o j e => by simp [pxs, pmb] at *; omega)
theorem pxq_xs {s t : ZSt} (h : zE pxq s t) : zE pxs s t := h.mono (fun o j e => by simp [pxs, pxq] at *; omega)
theorem XK.frq {s t : ZSt} {nb st : Nat} {D : ZD} {rm : Nat → Nat} (h : XK s nb D rm st) (hE : zE pxq s t) : XK t nb D rm st := by
  obtain ⟨a, b, c⟩ := h
  have hnb := a.2.1
  exact ⟨a.fr hE ⟨by simp [pxq], fun b hb => ⟨by simp [pxq] <;> omega, by simp [pxq] <;> omega, by simp [pxq] <;> omega, by simp [pxq] <;> omega, fun k => by simp [pxq] <;> omega, fun k => by simp [pxq] <;> omega⟩, fun t => by simp [pxq]⟩, b.on (hE.i (by simp [pxq])) (fun i => hE.i (by simp [pxq])) (fun i => hE.i (by simp [pxq])), fun t ht => ⟨(hE.i (by simp [pxq])).trans (c t ht).1, (c t ht).2⟩⟩
/-- what holds while the i-th state's acts are put in -/
def SX (s u : ZSt) (a : ZA) (st i : Nat) (Q : ZQ) (ed : Nat → List Nat) (es : List Nat) : Prop :=
  zE pxs s u ∧ XK u a.2.1.1 (aD a) a.2.1.2.2.2.2.2 st ∧ (∃ cell slot, XH u Q cell slot) ∧ (∀ k, k < Q.1 → okF a.2.1.1 (dcd (Q.2.1 k))) ∧
  (∀ j, j ≤ i → gi u 268 j = nI (qof ed j)) ∧ (∀ j e, j < i → e < (ed j).length → gi u 269 (qof ed j + e) = nI ((ed j).getD e 0)) ∧ (∀ e, e < es.length → gi u 269 (qof ed i + e) = nI (es.getD e 0)) ∧ i < Q.1
theorem qof_le (ed : Nat → List Nat) {i j : Nat} (h : i ≤ j) : qof ed i ≤ qof ed j := by
  induction j with
  | zero => rw [show i = 0 by omega]; exact Nat.le_refl _
  | succ j ih =>
    by_cases e : i = j + 1
    · rw [e]; exact Nat.le_refl _
    · exact Nat.le_trans (ih (by omega)) (Nat.le_add_right _ _)
theorem SX.mb {s u v : ZSt} {a : ZA} {st i : Nat} {Q : ZQ} {ed : Nat → List Nat} {es : List Nat} (h : SX s u a st i Q ed es) (hE : zE pmb u v) (hK : XK v a.2.1.1 (aD a) a.2.1.2.2.2.2.2 st) : SX s v a st i Q ed es := by
  obtain ⟨h1, h2, ⟨c, l, h3⟩, h4, h5, h6, h7, h8⟩ := h
  exact ⟨h1.trans (pmb_xs hE), hK, ⟨c, l, h3.fr hE (fun o j e => by simp [pmb] at *; omega)⟩, h4, fun j hj => (hE.i (by simp [pmb])).trans (h5 j hj), fun j e hj he => (hE.i (by simp [pmb])).trans (h6 j e hj he), fun e he => (hE.i (by simp [pmb])).trans (h7 e he), h8⟩
end Z64
