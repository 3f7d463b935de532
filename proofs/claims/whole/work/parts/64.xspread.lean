-- the class's search: one act from one state
section Z64
theorem dcd_en {f : Nat → Nat} (h : okS f) {t : Nat} (ht : t < 3) : dcd (en f) t = f t := by
  apply Nat.eq_of_testBit_eq
  intro i
  rw [dcd_t, en_t h]
  obtain ⟨h0, h1, h2⟩ := h
  by_cases hi : i < 12
  · rw [decide_eq_true hi, Bool.true_and]
    rcases (show t = 0 ∨ t = 1 ∨ t = 2 by omega) with rfl | rfl | rfl
    · rw [if_pos (by omega), show 12 * 0 + i = i by omega]
    · rw [if_neg (by omega), if_pos (by omega), show 12 * 1 + i - 12 = i by omega]
    · rw [if_neg (by omega), if_neg (by omega), show 12 * 2 + i - 24 = i by omega]
  · rw [decide_eq_false hi, Bool.false_and]
    have : f t < 2 ^ 12 := by
      rcases (show t = 0 ∨ t = 1 ∨ t = 2 by omega) with rfl | rfl | rfl
      · exact h0
      · exact h1
      · exact h2
    rw [tb_big this (by omega)]
theorem okF_dcd {nb : Nat} {f : Nat → Nat} (h : okF nb f) (hn : nb ≤ 12) : okF nb (dcd (en f)) := by
  have hS := h.S hn
  refine ⟨fun t ht => by rw [dcd_en hS ht]; exact h.1 t ht, fun i => ?_⟩
  rw [dcd_en hS (by decide), dcd_en hS (by decide), dcd_en hS (by decide)]
  exact h.2 i
/-- where a state's edges begin -/
def qof (ed : Nat → List Nat) : Nat → Nat
  | 0 => 0
  | j + 1 => qof ed j + (ed j).length
def pxs : Nat → Nat → Bool := fun o j => o == 243 || o == 244 || (decide (440 ≤ o) && decide (o < 475)) || (o == 202 && j == 5) || (decide (260 ≤ o) && decide (o < 270))
theorem pmb_xs {s t : ZSt} (h : zE pmb s t) : zE pxs s t := h.mono (fun o j e => by simp [pxs, pmb] at *; omega)
theorem pxq_xs {s t : ZSt} (h : zE pxq s t) : zE pxs s t := h.mono (fun o j e => by simp [pxs, pxq] at *; omega)
theorem XK.frq {s t : ZSt} {nb st : Nat} {D : ZD} {rm : Nat → Nat} (h : XK s nb D rm st) (hE : zE pxq s t) : XK t nb D rm st := by
  obtain ⟨a, b, c⟩ := h
  have hnb := a.2.1
  exact ⟨a.fr hE ⟨by simp [pxq], fun b hb => ⟨by simp [pxq] <;> omega, by simp [pxq] <;> omega, by simp [pxq] <;> omega, by simp [pxq] <;> omega, fun k => by simp [pxq] <;> omega, fun k => by simp [pxq] <;> omega⟩, fun t => by simp [pxq]⟩, b.on (hE.i (by simp [pxq])) (fun i => hE.i (by simp [pxq])) (fun i => hE.i (by simp [pxq])), fun t ht => ⟨(hE.i (by simp [pxq])).trans (c t ht).1, (c t ht).2⟩⟩
/-- what holds while the i-th state's acts are put in -/
def SX (s u : ZSt) (a : ZA) (st i : Nat) (Q : ZQ) (ed : Nat → List Nat) (es : List Nat) : Prop :=
  zE pxs s u ∧ XK u a.2.1.1 (aD a) a.2.1.2.2.2.2.2 st ∧ (∃ cell slot, XH u Q cell slot) ∧ (∀ k, k < Q.1 → okF a.2.1.1 (dcd (Q.2.1 k))) ∧
  (∀ j, j ≤ i → gi u 268 j = nI (qof ed j)) ∧ (∀ j e, j < i → e < (ed j).length → gi u 269 (qof ed j + e) = nI ((ed j).getD e 0)) ∧ (∀ e, e < es.length → gi u 269 (qof ed i + e) = nI (es.getD e 0)) ∧ i < Q.1
theorem qof_le (ed : Nat → List Nat) {i j : Nat} (h : i ≤ j) : qof ed i ≤ qof ed j := by
  induction j with
  | zero => rw [show i = 0 by omega]; exact Nat.le_refl _
  | succ j ih =>
    by_cases e : i = j + 1
    · rw [e]; exact Nat.le_refl _
    · exact Nat.le_trans (ih (by omega)) (Nat.le_add_right _ _)
theorem SX.mb {s u v : ZSt} {a : ZA} {st i : Nat} {Q : ZQ} {ed : Nat → List Nat} {es : List Nat} (h : SX s u a st i Q ed es) (hE : zE pmb u v) (hK : XK v a.2.1.1 (aD a) a.2.1.2.2.2.2.2 st) : SX s v a st i Q ed es := by
  obtain ⟨h1, h2, ⟨c, l, h3⟩, h4, h5, h6, h7, h8⟩ := h
  exact ⟨h1.trans (pmb_xs hE), hK, ⟨c, l, h3.fr hE (fun o j e => by simp [pmb] at *; omega)⟩, h4, fun j hj => (hE.i (by simp [pmb])).trans (h5 j hj), fun j e hj he => (hE.i (by simp [pmb])).trans (h6 j e hj he), fun e he => (hE.i (by simp [pmb])).trans (h7 e he), h8⟩
theorem getD_app {l : List Nat} {k e : Nat} (he : e < (l ++ [k]).length) : (l ++ [k]).getD e 0 = if e = l.length then k else l.getD e 0 := by
  rw [List.length_append, List.length_singleton] at he
  by_cases q : e = l.length
  · rw [if_pos q, q]; simp
  · rw [if_neg q]
    have : e < l.length := by omega
    simp [this, List.getElem?_append_left]
theorem XK.fr9 {s t : ZSt} {nb st : Nat} {D : ZD} {rm : Nat → Nat} (h : XK s nb D rm st) (hE : zE (fun o _ => o == 269) s t) : XK t nb D rm st := by
  obtain ⟨a, b, c⟩ := h
  have hnb := a.2.1
  exact ⟨a.fr hE ⟨rfl, fun b hb => ⟨by simp <;> omega, by simp <;> omega, by simp <;> omega, by simp <;> omega, fun k => by simp <;> omega, fun k => by simp <;> omega⟩, fun t => rfl⟩, b.on (hE.i rfl) (fun i => hE.i rfl) (fun i => hE.i rfl), fun t ht => ⟨(hE.i rfl).trans (c t ht).1, (c t ht).2⟩⟩
theorem qput_all {Q Q' : ZQ} {c d k : Nat} {f b : Int32} {R : Nat → Prop} (h : qput Q c f b d = some (k, Q')) (h1 : ∀ i, i < Q.1 → R (Q.2.1 i)) (h2 : R c) : ∀ i, i < Q'.1 → R (Q'.2.1 i) := by
  unfold qput at h
  by_cases q : qat Q c < Q.1
  · rw [if_pos q] at h
    cases h
    exact h1
  · rw [if_neg q] at h
    by_cases q2 : Q.1 < 5000
    · rw [if_pos q2] at h
      cases h
      intro i hi
      have hi : i < Q.1 + 1 := hi
      show R (ups Q.2.1 Q.1 c i)
      rw [ups_i]
      by_cases e : i = Q.1
      · rw [if_pos e]; exact h2
      · rw [if_neg e]; exact h1 i (by omega)
    · rw [if_neg q2] at h
      cases h
theorem SX.edge {s u : ZSt} {a : ZA} {st i k : Nat} {Q : ZQ} {ed : Nat → List Nat} {es : List Nat} (h : SX s u a st i Q ed es) : SX s (si u 269 (qof ed i + es.length) (nI k)) a st i Q ed (es ++ [k]) := by
  obtain ⟨h1, h2, ⟨c, l, h3⟩, h4, h5, h6, h7, h8⟩ := h
  have hE : zE (fun o _ => o == 269) u (si u 269 (qof ed i + es.length) (nI k)) := (zE.refl _ _).wi rfl
  refine ⟨h1.wi (by simp [pxs]), h2.fr9 hE, ⟨c, l, h3.fr hE (fun o j e => by simp at *; omega)⟩, h4, fun j hj => (hE.i rfl).trans (h5 j hj), fun j e hj he => ?_, fun e he => ?_, h8⟩
  · rw [gi_i, if_neg (fun w => ?_)]
    · exact h6 j e hj he
    · have h9 := qof_le ed (show j + 1 ≤ i by omega)
      have h9 : qof ed j + (ed j).length ≤ qof ed i := h9
      have := w.2
      omega
  · rw [getD_app he, gi_i]
    by_cases q : e = es.length
    · rw [if_pos ⟨rfl, by rw [q]⟩, if_pos q]
    · rw [if_neg (fun w => q (by have := w.2; omega)), if_neg q]
      rw [List.length_append, List.length_singleton] at he
      exact h7 e (by omega)
theorem xs_act {n st i kd b : Nat} {s u : ZSt} {a : ZA} {Q : ZQ} {ed : Nat → List Nat} {es : List Nat} {P : Bool × ZSt → Prop} {j27 : Int32 × ZSt → Option (Bool × ZSt)}
    (hn : 20000 < n) (hnb : a.2.1.1 ≤ 12) (h : SX s u a st i Q ed es) (hkd : kd < 7) (hb : b < a.2.1.1) (hlen : qof ed i + es.length < 180000) (hi : i < 5000)
    (hF : ∀ v, qput Q (en (aft (aD a) a.2.1.1 (dcd (Q.2.1 i)) (20 * kd + b))) (nI i) (nI (20 * kd + b)) (Q.2.2.2.2 i + 1) = none → zE pxs s v → XK v a.2.1.1 (aD a) a.2.1.2.2.2.2.2 st → XS v → P (false, v))
    (hG : ∀ v k Q', qput Q (en (aft (aD a) a.2.1.1 (dcd (Q.2.1 i)) (20 * kd + b))) (nI i) (nI (20 * kd + b)) (Q.2.2.2.2 i + 1) = some (k, Q') → SX s v a st i Q' ed (es ++ [k]) → zT (j27 (nI (qof ed i + es.length + 1), v)) P) :
    zT (lt (nI kd * (20 : Int32) + nI b) (fun v29 => gd (inb (nI i) 5000) (bn (f_T_after n (al u 260 (nI i)) v29 u) (fun p31 => bn (f_S_place n p31.1 (nI i) v29 p31.2) (fun p32 => (if p32.1 = (-1 : Int32) then some (false, p32.2) else (if nI (qof ed i + es.length) < (180000 : Int32) then gd (inb (nI (qof ed i + es.length)) 180000) (lt (sai p32.2 269 (nI (qof ed i + es.length)) p32.1) (fun s36 => lt (nI (qof ed i + es.length) + (1 : Int32)) (fun v37 => j27 (v37, s36)))) else some (false, p32.2)))))))) P := by
  obtain ⟨h1, h2, ⟨c, l, h3⟩, h4, h5, h6, h7, h8⟩ := id h
  have hQ5 := h3.2.2.2.1.2.2
  obtain ⟨g1, g2, _⟩ := h3.2.1 i h8
  have hok := h4 i h8
  rw [show nI kd * (20 : Int32) + nI b = nI (20 * kd + b) from by rw [Int32.mul_comm, show (20 : Int32) = nI 20 from rfl, nI_mulL, nI_add]]
  refine zT.ltS (zT.gu (inb_n hi (by decide)) ?_)
  rw [al_n _ _ (by omega), g1, show lN (Q.2.1 i) = lN (en (dcd (Q.2.1 i))) from by rw [en_dcd g2]]
  refine zT.bnT (t_after (by omega) h2 hok (by omega) (by omega)) ?_
  rintro ⟨_, v⟩ ⟨rfl, hE2, hK2⟩
  dsimp only at *
  have hok2 := aft_ok (D := aD a) hok (a := 20 * kd + b) (by omega) (by omega)
  have hlt2 := en_lt (hok2.S hnb)
  generalize hcc : en (aft (aD a) a.2.1.1 (dcd (Q.2.1 i)) (20 * kd + b)) = cc at hF hG hlt2 ⊢
  have hokc : okF a.2.1.1 (dcd cc) := by rw [← hcc]; exact okF_dcd hok2 hnb
  have hS2 := h.mb hE2 hK2
  obtain ⟨s1, _, ⟨c', l', s3⟩, s4, s5, s6, s7, s8⟩ := id hS2
  refine zT.bnT (s3.place (d := Q.2.2.2.2 i + 1) (f := nI i) (a := nI (20 * kd + b)) hn hlt2 (Or.inr ⟨i, h8, rfl, rfl⟩)) ?_
  rintro ⟨w, x⟩ ⟨hE3, hw⟩
  dsimp only at hE3 hw ⊢
  have hK3 := hK2.frq hE3
  cases hq : qput Q cc (nI i) (nI (20 * kd + b)) (Q.2.2.2.2 i + 1) with
  | none =>
    rw [hq] at hw
    obtain ⟨hw1, hw2⟩ := hw
    exact zT.it hw1 (zT.ret (hF x hq (s1.trans (pxq_xs hE3)) hK3 hw2))
  | some kq =>
    obtain ⟨k, Q'⟩ := kq
    rw [hq] at hw
    obtain ⟨rfl, hkQ, c2, l2, hX⟩ := hw
    have hQ6 := hX.2.2.2.1.2.2
    obtain ⟨p1, p2, p3⟩ := qput_le hq
    have hS3 : SX s x a st i Q' ed es := ⟨s1.trans (pxq_xs hE3), hK3, ⟨c2, l2, hX⟩, qput_all (R := fun c => okF a.2.1.1 (dcd c)) hq s4 hokc, fun j hj => (hE3.i (by simp [pxq])).trans (s5 j hj), fun j e hj he => (hE3.i (by simp [pxq])).trans (s6 j e hj he), fun e he => (hE3.i (by simp [pxq])).trans (s7 e he), by omega⟩
    refine zT.ie (nI_nm1 (by omega)) (zT.it ((nI_ltI (by omega) (by decide)).mpr hlen) (zT.gu (inb_n hlen (by decide)) ?_))
    rw [sai_n _ _ _ (by omega), nI_1]
    exact zT.ltS (zT.ltS (hG _ k Q' hq hS3.edge))
end Z64
