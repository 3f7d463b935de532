-- the class's search: clearing, placing
section Z60
def pxq : Nat → Nat → Bool := fun o j => (o == 202 && j == 5) || (decide (260 ≤ o) && decide (o < 268))
def q0 : ZQ := (0, fun _ => 0, fun _ => 0, fun _ => 0, fun _ => 0)
def XS (s : ZSt) : Prop := ∃ Q cell slot, XH s Q cell slot
theorem XH.on {s t : ZSt} {Q : ZQ} {cell slot : Nat → Nat} (h : XH s Q cell slot) (hq : ∀ o j, ((o == 202 && j == 5) || o == 260 || o == 261 || o == 262 || o == 263 || o == 266 || o == 267) = true → gi t o j = gi s o j ∧ gl t o j = gl s o j) : XH t Q cell slot := by
  obtain ⟨h1, h2, h3, h4, h5⟩ := h
  refine ⟨(hq _ _ rfl).1.trans h1, fun i hi => ?_, fun p hp => (hq _ _ rfl).1.trans (h3 p hp), h4, h5⟩
  obtain ⟨a, b, c, d, e, f⟩ := h2 i hi
  exact ⟨(hq _ _ rfl).2.trans a, b, (hq _ _ rfl).1.trans c, (hq _ _ rfl).1.trans d, (hq _ _ rfl).1.trans e, (hq _ _ rfl).1.trans f⟩
theorem XH.fr {p : Nat → Nat → Bool} {s t : ZSt} {Q : ZQ} {cell slot : Nat → Nat} (h : XH s Q cell slot) (hE : zE p s t) (hp : ∀ o j, ((o == 202 && j == 5) || o == 260 || o == 261 || o == 262 || o == 263 || o == 266 || o == 267) = true → p o j = false) : XH t Q cell slot := h.on (fun o j e => hE o j (hp o j e))
theorem XS.o {s t : ZSt} (h : XS s) (hE : zE pXo s t) : XS t := by
  obtain ⟨Q, c, l, h⟩ := h
  exact ⟨Q, c, l, h.fr hE (fun o j e => by simp [pXo] at *; omega)⟩
theorem XS.m {s t : ZSt} (h : XS s) (hE : zE pMo s t) : XS t := by
  obtain ⟨Q, c, l, h⟩ := h
  exact ⟨Q, c, l, h.fr hE (fun o j e => by simp [pMo] at *; omega)⟩
def qput (Q : ZQ) (c : Nat) (f a : Int32) (d : Nat) : Option (Nat × ZQ) := if qat Q c < Q.1 then some (qat Q c, Q) else if Q.1 < 5000 then some (Q.1, qadd Q c f a d) else none
def pqP (s : ZSt) (q : Option (Nat × ZQ)) (r : Int32 × ZSt) : Prop := zE pxq s r.2 ∧ match q with
  | none => r.1 = -1 ∧ XS r.2
  | some (i, Q) => r.1 = nI i ∧ i < Q.1 ∧ ∃ cell slot, XH r.2 Q cell slot
theorem XH.index {s : ZSt} {Q : ZQ} {cell slot : Nat → Nat} {n c : Nat} (hn : 20000 < n) (hc : c < 2 ^ 36) (h : XH s Q cell slot) : f_S_indexOf n (lN c) s = some (if qat Q c < Q.1 then nI (qat Q c) else -1) := by
  apply zT.eq
  unfold f_S_indexOf
  refine zT.bnT (h.find hn hc) ?_
  rintro _ ⟨k, rfl, w1, w2⟩
  obtain ⟨h1, h2, h3, h4, h5⟩ := id h
  have h50 := h4.2.2
  have hp : (hX c + k) % 16384 < 16384 := Nat.mod_lt _ (by decide)
  have key1 : cell ((hX c + k) % 16384) = 0 → ∀ i, i < Q.1 → Q.2.1 i ≠ c := fun c0 => h4.miss c0 w1
  generalize hpe : (hX c + k) % 16384 = p at w2 key1 hp ⊢
  clear hpe w1
  obtain ⟨l1, l2⟩ := h4.1 _ hp
  refine zT.gu (inb_n hp (by decide)) (zT.ret ?_)
  rw [ai_n _ _ (by omega), h3 _ hp]
  by_cases c0 : cell p = 0
  · rw [qat_no (key1 c0), if_neg (Nat.lt_irrefl _), c0]; rfl
  · have e := w2 c0
    have hq : qat Q c = cell p - 1 := by
      have := qat_in h5 (i := cell p - 1) (by omega)
      rw [e] at this
      exact this
    rw [hq, if_pos (by omega), show cell p = (cell p - 1) + 1 by omega, nI_pred, Nat.add_sub_cancel]
theorem XH.clear {s : ZSt} {Q : ZQ} {cell slot : Nat → Nat} {n : Nat} (hn : 20000 < n) (h : XH s Q cell slot) : zT (f_S_clear n s) (fun t => zE pxq s t ∧ ∃ cell slot, XH t q0 cell slot) := by
  obtain ⟨h1, h2, h3, h4, h5⟩ := id h
  have h50 := h4.2.2
  unfold f_S_clear
  refine zT.cnt 5000 (fun k x => k ≤ Q.1 ∧ x.1 = nI k ∧ zE (fun o _ => o == 266) s x.2 ∧ ∀ p, p < 16384 → gi x.2 266 p = nI (if cell p ≤ k then 0 else cell p)) (by omega) ⟨Nat.zero_le _, rfl, zE.refl _ _, fun p hp => ?_⟩ ?_
  · rw [show (s : ZSt) = ((0 : Int32), s).2 from rfl, h3 p hp]
    by_cases q : cell p ≤ 0
    · rw [if_pos q, show cell p = 0 by omega]
    · rw [if_neg q]
  rintro j k ⟨_, t⟩ hk ⟨hkQ, rfl, hE, f1⟩ hj
  dsimp only at *
  rw [(hE.i (o := 202) rfl).trans h1]
  refine zT.ite (fun c => ?_) (fun c => ?_)
  · rw [nI_leI (by omega) (by omega)] at c
    have e : k = Q.1 := by omega
    subst e
    refine zT.ltS (zT.ret ⟨(hE.mono (fun o j e => by simp [pxq] at *; omega)).wi rfl, fun _ => 0, fun _ => 0, rfl, fun i hi => absurd hi (Nat.not_lt_zero _), fun p hp => ?_, ⟨fun p hp => ⟨Nat.le_refl _, fun w => absurd rfl w⟩, fun i hi => absurd hi (Nat.not_lt_zero _), Nat.zero_le _⟩, fun i j hi => absurd hi (Nat.not_lt_zero _)⟩)
    rw [gi_i, if_neg (by omega), f1 p hp, if_pos (h4.1 p hp).1]
  · rw [nI_leI (by omega) (by omega)] at c
    obtain ⟨g1, g2, _⟩ := h4.2.1 k (by omega)
    refine zT.gu (inb_n (by omega) (by decide)) ?_
    rw [ai_n _ _ (by omega), (hE.i (o := 267) rfl).trans (h2 k (by omega)).2.2.2.2.2]
    refine zT.gu (inb_n g1 (by decide)) ?_
    rw [sai_n _ _ _ (by omega), nI_1]
    refine zT.ltS (zT.ltS (hj (by omega) _ ⟨by omega, rfl, hE.wi rfl, fun p hp => ?_⟩))
    dsimp only
    rw [gi_i]
    by_cases e : p = slot k
    · rw [if_pos ⟨rfl, e⟩, e, g2, if_pos (Nat.le_refl _)]; rfl
    · rw [if_neg (fun w => e w.2), f1 p hp]
      have : cell p ≠ k + 1 := fun w => e (by
        have := (h4.1 p hp).2 (by omega)
        rw [w, Nat.add_sub_cancel] at this
        exact this.symm)
      congr 1
      by_cases q : cell p ≤ k
      · rw [if_pos q, if_pos (by omega)]
      · rw [if_neg q, if_neg (by omega)]
end Z60
