-- sign, end
section Z30
def pMo : Nat → Nat → Bool := fun o _ => o == 0 || (decide (100 ≤ o) && decide (o < 200))
def pXo : Nat → Nat → Bool := fun o _ => o == 1 || o == 200 || o == 201 || (decide (203 ≤ o) && decide (o < 260)) || (decide (270 ≤ o) && decide (o < 550))
def p00 : Nat → Nat → Bool := fun o j => o == 0 && j == 0
def mP {α : Type} (v : α) (a : ZA) (s : ZSt) : α × ZSt → Prop := fun q => q.1 = v ∧ zE pMo s q.2 ∧ MA q.2 a
def xP {α : Type} (v : α) (T : Nat) (a : ZA) (s : ZSt) : α × ZSt → Prop := fun q => q.1 = v ∧ zE pXo s q.2 ∧ XX q.2 T a
theorem MA.o {s t : ZSt} {a : ZA} (h : MA s a) (hE : zE pXo s t) : MA t a := h.fr hE (fun o j e => by
  simp [qM, pXo] at *
  omega)
theorem XX.o {s t : ZSt} {T : Nat} {a : ZA} (h : XX s T a) (hE : zE pMo s t) : XX t T a := h.fr hE (fun o j e => by
  simp [qX, pMo] at *
  omega)
theorem MA.z {s : ZSt} {a : ZA} (h : MA s a) : MA (si s 0 0 0) a := h.fr (p := p00) ((zE.refl _ _).wi rfl) (fun o j e => by
  simp [qM, p00] at *
  omega)
theorem zz (s : ZSt) : zE pMo s (si s 0 0 0) := (zE.refl _ _).wi rfl
theorem lF_lt {l m : List Int32} {k : Nat} (h : k < l.length) : lF (l ++ m) k = lF l k := by
  unfold lF; rw [List.getD_eq_getElem?_getD, List.getD_eq_getElem?_getD, List.getElem?_append_left h]
theorem lF_ge {l m : List Int32} {k : Nat} (h : l.length ≤ k) : lF (l ++ m) k = lF m (k - l.length) := by
  unfold lF; rw [List.getD_eq_getElem?_getD, List.getD_eq_getElem?_getD, List.getElem?_append_right h]
theorem lF_take {l : List Int32} {n k : Nat} (h : k < n) : lF (l.take n) k = lF l k := by
  unfold lF
  rw [List.getD_eq_getElem?_getD, List.getD_eq_getElem?_getD, List.getElem?_take_of_lt h]
def byt (v : Int32) (k : Nat) : Int32 := usrI v (nI (24 - 8 * k)) &&& 255
def bys (v : Int32) : List Int32 := [byt v 0, byt v 1, byt v 2, byt v 3]
theorem sr255 (v : Int32) {k : Nat} (hk : k < 4) : srI v (nI (24 - 8 * k)) &&& 255 = usrI v (nI (24 - 8 * k)) &&& 255 := by
  rw [pk_and _ (m := 255) 8 (by decide), pk_and _ (m := 255) 8 (by decide)]
  apply congrArg nI
  have h1 : (srI v (nI (24 - 8 * k))).toInt = v.toInt >>> (24 - 8 * k) := pk_shr v _ _ (s31 _ (by omega))
  have h2 : (usrI v (nI (24 - 8 * k))).toBitVec.toNat = v.toBitVec.toNat / 2 ^ (24 - 8 * k) := pk_ushr v _ _ (s31u _ (by omega))
  have e1 : (srI v (nI (24 - 8 * k))).toInt = (srI v (nI (24 - 8 * k))).toBitVec.toInt := rfl
  have e2 : v.toInt = v.toBitVec.toInt := rfl
  rw [e1, BitVec.toInt_eq_toNat_cond] at h1
  rw [e2, BitVec.toInt_eq_toNat_cond, Int.shiftRight_eq_div_pow] at h1
  rw [h2]
  revert h1
  generalize (srI v (nI (24 - 8 * k))).toBitVec.toNat = x
  have hv := v.toBitVec.isLt
  revert hv
  generalize v.toBitVec.toNat = y
  intro hv h1
  rcases (show k = 0 ∨ k = 1 ∨ k = 2 ∨ k = 3 by omega) with rfl | rfl | rfl | rfl
  · simp only [Nat.reduceMul, Nat.reduceSub, Nat.reducePow, Int.reducePow] at h1 ⊢
    split at h1 <;> split at h1 <;> omega
  · simp only [Nat.reduceMul, Nat.reduceSub, Nat.reducePow, Int.reducePow] at h1 ⊢
    split at h1 <;> split at h1 <;> omega
  · simp only [Nat.reduceMul, Nat.reduceSub, Nat.reducePow, Int.reducePow] at h1 ⊢
    split at h1 <;> split at h1 <;> omega
  · simp only [Nat.reduceMul, Nat.reduceSub, Nat.reducePow, Int.reducePow] at h1 ⊢
    split at h1 <;> split at h1 <;> omega
/-- sign: what it answers, what is then -/
def sSign (v : Int32) (a : ZA) : Int32 × ZA := if a.1.1.length ≤ 76 then (nI (a.1.1.length + 4), ((a.1.1 ++ bys v, a.1.2), a.2)) else (-1, a)
theorem okA_tx {a : ZA} (h : okA a) {tx : List Int32} (hl : tx.length ≤ 80) : okA ((tx, a.1.2), a.2) := ⟨hl, h.2⟩
def pmt : Nat → Nat → Bool := fun o j => (o == 0 && (j == 18 || j == 0)) || o == 117
theorem MA.tx {s t : ZSt} {a : ZA} (h : MA s a) (hE : zE pmt s t) {tx : List Int32} (hl : tx.length ≤ 80) (h1 : MTx t tx) : MA t ((tx, a.1.2), a.2) := by
  obtain ⟨hA, hC, h2, h3, h4, h5, h6, h7⟩ := h
  refine ⟨okA_tx hA hl, hC.fr hE ⟨⟨rfl, rfl, fun _ => rfl, fun _ => rfl, fun _ => rfl, fun _ => rfl⟩, fun _ => rfl, fun _ => rfl, fun _ => rfl, fun _ => rfl⟩, h1, MRl.fr h3 hA.2.1 hE ⟨rfl, fun _ _ => rfl⟩, h4.fr hE ⟨rfl, fun _ => rfl⟩, h5.fr hE (fun _ => ⟨rfl, rfl, rfl⟩), h6.fr hE ⟨rfl, rfl, fun _ => rfl⟩, MKs.fr h7 hE (fun _ => ⟨rfl, rfl⟩)⟩
def pxt : Nat → Nat → Bool := fun o j => (o == 200 && j == 3) || o == 224
theorem XX.tx {s t : ZSt} {T : Nat} {a : ZA} (h : XX s T a) (hE : zE pxt s t) {tx : List Int32} (hl : tx.length ≤ 80) (h1 : XTx t tx) : XX t T ((tx, a.1.2), a.2) := by
  obtain ⟨hA, ⟨st, hst, hB⟩, h2, h3, h4, h5, h6, h7, h8⟩ := h
  refine ⟨okA_tx hA hl, ⟨st, hst, hB.fr2 hE ⟨⟨rfl, fun b hb => ⟨?_, ?_, ?_, ?_, fun k => ?_, fun k => ?_⟩, fun _ => rfl⟩, rfl, fun b hb => ⟨?_, ?_⟩, rfl, fun _ => ⟨rfl, rfl⟩⟩⟩, h1, h3.fr hE ⟨rfl, fun _ => rfl⟩, h4.fr hE ⟨rfl, fun _ => rfl⟩, h5.fr hE (fun b hb => ⟨?_, ?_⟩), h6.fr hA.2.2.2.2.2.1 hE ⟨rfl, fun r j hr => ?_⟩, h7.fr hE ⟨rfl, rfl, fun _ => rfl⟩, XKs.fr h8 hE (fun o j h1 h2 => ?_)⟩ <;> (simp [pxt]; omega)
theorem m_sign {n : Nat} {s : ZSt} {a : ZA} (v : Int32) (hn : 4 < n) (h : MA s a) : zT (f_M_sign n v s) (mP (sSign v a).1 (sSign v a).2 s) := by
  have hz := h.z
  obtain ⟨⟨t1, t2⟩, _⟩ := hz.2.2
  have h80 := hz.1.1
  unfold f_M_sign
  refine zT.ln (fun s1 hs1 => ?_)
  rw [← hs1] at hz t1 t2
  have hE0 : zE pMo s s1 := by rw [hs1]; exact zz s
  rw [t1]
  unfold sSign
  refine zT.ite (fun hc => ?_) (fun hc => ?_)
  · rw [show (76 : Int32) = nI 76 from rfl, nI_leI (by omega) (by omega)] at hc
    rw [if_pos hc]
    refine zT.cnt 4 (fun k x => x.1 = nI k ∧ zE pmt s1 x.2 ∧ gi x.2 0 18 = nI a.1.1.length ∧ ∀ j, gi x.2 117 j = if a.1.1.length ≤ j ∧ j < a.1.1.length + k then byt v (j - a.1.1.length) else gi s1 117 j) hn ⟨rfl, zE.refl _ _, t1, fun j => by rw [if_neg (by omega)]⟩ ?_
    rintro j k ⟨_, u⟩ hk ⟨rfl, hE, h18, hb⟩ hj
    dsimp only at *
    refine zT.ite (fun h4 => ?_) (fun h4 => ?_)
    · rw [show (4 : Int32) = nI 4 from rfl, nI_leI (by omega) (by omega)] at h4
      have e : k = 4 := by omega
      subst e
      refine zT.ltS ?_
      rw [h18, show (4 : Int32) = nI 4 from rfl, nI_add]
      have hE2 : zE pmt s1 (si u 0 18 (nI (a.1.1.length + 4))) := hE.wi rfl
      refine zT.ret ⟨?_, ?_, hz.tx hE2 (by simp [bys]; omega) ⟨?_, fun k hk => ?_⟩⟩
      · try dsimp only
        rw [gi_i, if_pos ⟨rfl, rfl⟩]
      · exact hE0.trans (hE2.mono (fun o j e => by simp [pMo, pmt] at *; omega))
      · try dsimp only
        rw [gi_i, if_pos ⟨rfl, rfl⟩, List.length_append]; rfl
      · try dsimp only
        rw [List.length_append, show (bys v).length = 4 from rfl] at hk
        rw [Nat.zero_add, gi_i, if_neg (by omega), hb]
        by_cases q : k < a.1.1.length
        · rw [if_neg (by omega), lF_lt q]
          have := t2 k q
          rwa [Nat.zero_add] at this
        · rw [if_pos (by omega), lF_ge (by omega)]
          have : ∀ i, i < 4 → byt v i = lF (bys v) i := fun i hi => by
            rcases (show i = 0 ∨ i = 1 ∨ i = 2 ∨ i = 3 by omega) with rfl | rfl | rfl | rfl <;> rfl
          exact this _ (by omega)
    · rw [show (4 : Int32) = nI 4 from rfl, nI_leI (by omega) (by omega)] at h4
      rw [h18, nI_add]
      refine zT.gu (inb_n (by omega) (by decide)) ?_
      rw [sai_n _ _ _ (by omega), show (8 : Int32) = nI 8 from rfl, nI_mulL, show (24 : Int32) = nI 24 from rfl, pk_sub (by omega), sr255 v (by omega)]
      refine zT.ltS (zT.ltS ?_)
      rw [nI_1]
      refine hj (by omega) _ ⟨rfl, hE.wi rfl, ?_, fun j => ?_⟩
      · try dsimp only
        rw [gi_i, if_neg (by omega), h18]
      · try dsimp only
        rw [gi_i]
        by_cases q : j = a.1.1.length + k
        · subst q
          rw [if_pos ⟨rfl, rfl⟩, if_pos (by omega), Nat.add_sub_cancel_left]; rfl
        · rw [if_neg (fun w => q w.2), hb]
          by_cases w : a.1.1.length ≤ j ∧ j < a.1.1.length + k
          · rw [if_pos w, if_pos (by omega)]
          · rw [if_neg w, if_neg (by omega)]
  · rw [show (76 : Int32) = nI 76 from rfl, nI_leI (by omega) (by omega)] at hc
    rw [if_neg hc]
    exact zT.ret ⟨rfl, hE0, hz⟩
def shv : Nat → Int32
  | 0 => 24
  | 1 => 16
  | 2 => 8
  | 3 => 0
  | _ => -8
theorem x_sign {n T : Nat} {s : ZSt} {a : ZA} (v : Int32) (hn : 4 < n) (h : XX s T a) : zT (f_X_sign n v s) (xP (sSign v a).1 T (sSign v a).2 s) := by
  obtain ⟨t1, t2⟩ := h.2.2.1
  have h80 := h.1.1
  unfold f_X_sign f_P_append
  refine zT.bi ?_
  rw [t1, show (4 : Int32) = nI 4 from rfl, nI_add]
  unfold sSign
  refine zT.ite (fun hc => ?_) (fun hc => ?_)
  · rw [show (80 : Int32) = nI 80 from rfl, nI_leI (by omega) (by omega)] at hc
    rw [if_pos (show a.1.1.length ≤ 76 by omega)]
    refine zT.cnt 4 (fun k x => x.1 = shv k ∧ zE pxt s x.2 ∧ gi x.2 200 3 = nI (a.1.1.length + k) ∧ ∀ j, gi x.2 224 j = if a.1.1.length ≤ j ∧ j < a.1.1.length + k then byt v (j - a.1.1.length) else gi s 224 j) hn ⟨rfl, zE.refl _ _, t1, fun j => by rw [if_neg (by omega)]⟩ ?_
    rintro j k ⟨_, u⟩ hk ⟨rfl, hE, h18, hb⟩ hj
    dsimp only at *
    have hsh : k < 4 → shv k = nI (24 - 8 * k) ∧ shv k + (-8) = shv (k + 1) := fun hk => by
      rcases (show k = 0 ∨ k = 1 ∨ k = 2 ∨ k = 3 by omega) with rfl | rfl | rfl | rfl <;> exact ⟨rfl, rfl⟩
    refine zT.ite (fun h4 => ?_) (fun h4 => ?_)
    · have e : k = 4 := by
        rcases Nat.lt_or_ge k 4 with q | q
        · rw [(hsh q).1] at h4
          exact absurd h4 (nI_pos (by omega))
        · omega
      subst e
      refine zT.ret (zT.ret ⟨h18, ?_, h.tx hE (by simp [bys]; omega) ⟨?_, fun k hk => ?_⟩⟩)
      · exact hE.mono (fun o j e => by simp [pXo, pxt] at *; omega)
      · try dsimp only
        rw [h18, List.length_append]; rfl
      · try dsimp only
        rw [List.length_append, show (bys v).length = 4 from rfl] at hk
        rw [Nat.zero_add, hb]
        by_cases q : k < a.1.1.length
        · rw [if_neg (by omega), lF_lt q]
          have := t2 k q
          rwa [Nat.zero_add] at this
        · rw [if_pos (by omega), lF_ge (by omega)]
          have : ∀ i, i < 4 → byt v i = lF (bys v) i := fun i hi => by
            rcases (show i = 0 ∨ i = 1 ∨ i = 2 ∨ i = 3 by omega) with rfl | rfl | rfl | rfl <;> rfl
          exact this _ (by omega)
    · have hk4 : k < 4 := by
        rcases Nat.lt_or_ge k 4 with q | q
        · exact q
        · have e : k = 4 := by omega
          subst e; exact absurd (by decide) h4
      rw [h18, (hsh hk4).2, (hsh hk4).1]
      refine zT.gu (inb_n (by omega) (by decide)) ?_
      rw [sai_n _ _ _ (by omega)]
      refine zT.ltS ?_
      rw [gi_i, if_neg (by omega), h18, nI_1]
      refine zT.ltS (zT.ltS ?_)
      refine hj (by omega) _ ⟨rfl, (hE.wi rfl).wi rfl, ?_, fun j => ?_⟩
      · try dsimp only
        rw [gi_i, if_pos ⟨rfl, rfl⟩]; rfl
      · try dsimp only
        rw [gi_i, if_neg (by omega), gi_i]
        by_cases q : j = a.1.1.length + k
        · subst q
          rw [if_pos ⟨rfl, rfl⟩, if_pos (by omega), Nat.add_sub_cancel_left]; rfl
        · rw [if_neg (fun w => q w.2), hb]
          by_cases w : a.1.1.length ≤ j ∧ j < a.1.1.length + k
          · rw [if_pos w, if_pos (by omega)]
          · rw [if_neg w, if_neg (by omega)]
  · rw [show (80 : Int32) = nI 80 from rfl, nI_leI (by omega) (by omega)] at hc
    rw [if_neg (show ¬ a.1.1.length ≤ 76 by omega)]
    exact zT.ret (zT.ret ⟨rfl, zE.refl _ _, h⟩)
/-- end -/
def sEnd (x : Int32) (a : ZA) : Bool × ZA := if 0 ≤ x ∧ x ≤ nI a.1.1.length then (true, ((a.1.1.take x.toNatClampNeg, a.1.2), a.2)) else (false, a)
theorem take_tx {s : ZSt} {o : Nat} {l : List Int32} {k : Nat} (h : lst s o 0 l) (hk : k ≤ l.length) : lst s o 0 (l.take k) := by
  intro j hj
  rw [List.length_take] at hj
  rw [lF_take (by omega)]
  exact h j (by omega)
theorem m_end {s : ZSt} {a : ZA} (x : Int32) (h : MA s a) : zT (f_M_end x s) (mP (sEnd x a).1 (sEnd x a).2 s) := by
  have hz := h.z
  obtain ⟨⟨t1, t2⟩, _⟩ := hz.2.2
  have h80 := hz.1.1
  unfold f_M_end
  refine zT.ln (fun s1 hs1 => ?_)
  rw [← hs1] at hz t1 t2
  have hE0 : zE pMo s s1 := by rw [hs1]; exact zz s
  rw [t1]
  unfold sEnd
  have e0 : (0 : Int64) = (0 : Int32).toInt64 := by decide
  rw [e0, in_i]
  refine zT.ite (fun hc => ?_) (fun hc => ?_)
  · rw [decide_eq_true_eq] at hc
    rw [if_pos hc]
    rcases nI_cases x 81 (by decide) with ⟨k, hk, rfl⟩ | q | q
    · rw [nI_leI (by omega) (by omega)] at hc
      rw [nI_clamp (by omega)]
      have hE2 : zE pmt s1 (si s1 0 18 (nI k)) := (zE.refl _ _).wi rfl
      refine zT.ltS (zT.ret ⟨rfl, ?_, hz.tx hE2 ?_ ⟨?_, ?_⟩⟩)
      · exact hE0.trans (hE2.mono (fun o j e => by simp [pMo, pmt] at *; omega))
      · rw [List.length_take]; omega
      · try dsimp only
        rw [gi_i, if_pos ⟨rfl, rfl⟩, List.length_take, Nat.min_eq_left hc.2]
      · exact fun j hj => by
          rw [gi_i, if_neg (by omega)]
          exact take_tx t2 hc.2 j hj
    · exact absurd q (Int32.not_lt.mpr hc.1)
    · exact absurd (Int32.le_trans q hc.2) (nI_ge (by omega) (by decide))
  · rw [decide_eq_true_eq] at hc
    rw [if_neg hc]
    exact zT.ret ⟨rfl, hE0, hz⟩
theorem x_end {T : Nat} {s : ZSt} {a : ZA} (x : Int32) (h : XX s T a) : zT (f_X_end x s) (xP (sEnd x a).1 T (sEnd x a).2 s) := by
  obtain ⟨t1, t2⟩ := h.2.2.1
  have h80 := h.1.1
  unfold f_X_end f_P_cut sEnd
  refine zT.bi ?_
  rw [t1]
  refine zT.ite (fun hc => ?_) (fun hc => ?_)
  · rw [if_neg (fun q => absurd hc (Int32.not_lt.mpr q.1))]
    exact zT.ret (zT.ret ⟨rfl, zE.refl _ _, h⟩)
  · refine zT.ite (fun hc2 => ?_) (fun hc2 => ?_)
    · rw [if_pos ⟨Int32.not_lt.mp hc, hc2⟩]
      rcases nI_cases x 81 (by decide) with ⟨k, hk, rfl⟩ | q | q
      · rw [nI_leI (by omega) (by omega)] at hc2
        rw [nI_clamp (by omega)]
        have hE2 : zE pxt s (si s 200 3 (nI k)) := (zE.refl _ _).wi rfl
        refine zT.ltS (zT.ret (zT.ret ⟨rfl, ?_, h.tx hE2 ?_ ⟨?_, ?_⟩⟩))
        · exact hE2.mono (fun o j e => by simp [pXo, pxt] at *; omega)
        · rw [List.length_take]; omega
        · try dsimp only
          rw [gi_i, if_pos ⟨rfl, rfl⟩, List.length_take, Nat.min_eq_left hc2]
        · exact fun j hj => by
            rw [gi_i, if_neg (by omega)]
            exact take_tx t2 hc2 j hj
      · exact absurd q hc
      · exact absurd (Int32.le_trans q hc2) (nI_ge (by omega) (by decide))
    · rw [if_neg (fun q => hc2 q.2)]
      exact zT.ret (zT.ret ⟨rfl, zE.refl _ _, h⟩)
end Z30
