-- the ring told: class
section Z57
def p218 : Nat → Nat → Bool := fun o _ => o == 217 || o == 218
def lkX (s : ZSt) (g : Nat → Nat) (N : Nat) : Prop := ∀ u, u < N → gi s 217 u = nI (g u) ∧ g u < 2 ^ N
def p218' : Nat → Nat → Bool := fun o _ => o == 218
theorem lkX.fr {s t : ZSt} {g : Nat → Nat} {N : Nat} (h : lkX s g N) (hE : zE p218' s t) : lkX t g N := fun u hu => ⟨(hE.i rfl).trans (h u hu).1, (h u hu).2⟩
theorem mkm_0 {p : Nat → Bool} {k : Nat} (h : ∀ i, i < k → p i = false) : mkm p k = 0 := by
  apply Nat.eq_of_testBit_eq
  intro i
  rw [mkm_t, Nat.zero_testBit]
  by_cases q : i < k
  · rw [h i q, Bool.and_false]
  · rw [decide_eq_false q, Bool.false_and]
theorem nI_m1 {k : Nat} (h : k < 2 ^ 31) : nI (k + 1) + (-1) = nI k := by
  rw [← Int32.sub_eq_add_neg, nI_pred]
def rfP (g : Nat → Nat) (b N : Nat) (s : ZSt) (r : Int32 × ZSt) : Prop := zE p218' s r.2 ∧ ((∃ l, r.1 = nI l ∧ 1 ≤ l ∧ l ≤ N ∧ (nr g b N l).testBit b = true ∧ (∀ m, 1 ≤ m → m < l → (nr g b N m).testBit b = false) ∧ ∀ j, j < l → gi r.2 218 j = nI (nr g b N j)) ∨ (r.1 = 0 ∧ ∀ m, 1 ≤ m → m ≤ N → (nr g b N m).testBit b = false))
theorem x_ringFrom {n b N : Nat} {g : Nat → Nat} {s : ZSt} (hn : 100 < n) (hb : b < N) (hN : N ≤ 12) (hk : lkX s g N) : zT (f_X_ringFrom n (nI b) (nI N) s) (rfP g b N s) := by
  have hp12 : 2 ^ N ≤ 4096 := Nat.pow_le_pow_right (n := 2) (by decide) hN
  unfold f_X_ringFrom
  rw [show ∀ v, sai s 218 (0 : Int32) v = si s 218 0 v from fun _ => rfl, shI_n (by omega)]
  refine zT.ltS ?_
  refine zT.cnt 12 (fun k x => k ≤ N ∧ x.1 = nI (1 + k) ∧ zE p218' s x.2 ∧ (∀ j, j < 1 + k → gi x.2 218 j = nI (nr g b N j)) ∧ ∀ m, 1 ≤ m → m < 1 + k → (nr g b N m).testBit b = false) (by omega) ⟨Nat.zero_le _, rfl, (zE.refl _ _).wi rfl, fun j hj => ?_, fun m h1 h2 => by omega⟩ ?_
  · rw [show j = 0 by omega, gi_i, if_pos ⟨rfl, rfl⟩]; rfl
  rintro j3 k ⟨_, t⟩ hk12 ⟨hkN, rfl, hE, f1, f2⟩ hj3
  dsimp only at *
  refine zT.ite (fun c => ?_) (fun c => ?_)
  · rw [nI_ltI (by omega) (by omega)] at c
    exact zT.ret ⟨hE, Or.inr ⟨rfl, fun m h1 h2 => f2 m h1 (by omega)⟩⟩
  · rw [nI_ltI (by omega) (by omega)] at c
    have hpr : ∀ i, i < b → (fun u => decide (b ≤ u) && decide (g u &&& nr g b N k ≠ 0)) i = false := fun i hi => by
      show (decide (b ≤ i) && _) = false
      rw [decide_eq_false (by omega), Bool.false_and]
    refine zT.cnt 12 (fun i x => b + i ≤ N ∧ x.1 = nI (mkm (fun u => decide (b ≤ u) && decide (g u &&& nr g b N k ≠ 0)) (b + i)) ∧ x.2 = nI (b + i)) (by omega) ⟨by omega, by rw [show b + 0 = b from rfl, mkm_0 hpr]; rfl, rfl⟩ ?_
    rintro j6 i ⟨_, _⟩ hi12 ⟨hiN, rfl, rfl⟩ hj6
    dsimp only at *
    have hml := mkm_lt (fun u => decide (b ≤ u) && decide (g u &&& nr g b N k ≠ 0)) (b + i)
    have hml2 : 2 ^ (b + i) ≤ 4096 := Nat.pow_le_pow_right (n := 2) (by decide) (show b + i ≤ 12 by omega)
    refine zT.ite (fun c1 => ?_) (fun c1 => ?_)
    · rw [nI_leI (by omega) (by omega)] at c1
      have e : b + i = N := by omega
      rw [e]
      rw [show mkm (fun u => decide (b ≤ u) && decide (g u &&& nr g b N k ≠ 0)) N = nr g b N (1 + k) from by rw [Nat.add_comm 1 k, nr_s]]
      have hnl := nr_lt (g := g) hb (1 + k)
      refine zT.gu (inb_n (by omega) (by decide)) ?_
      rw [sai_n _ _ _ (by omega)]
      refine zT.ltS ?_
      have hE2 : zE p218' s (si t 218 (1 + k) (nI (nr g b N (1 + k)))) := hE.wi rfl
      refine zT.ite (fun c2 => ?_) (fun c2 => ?_)
      · rw [bit0 (by omega) (by omega)] at c2
        rw [nI_1]
        refine zT.ltS (hj3 (by omega) _ ⟨by omega, by dsimp only; rw [Nat.add_assoc], hE2, fun j hj => ?_, fun m h1 h2 => ?_⟩)
        · dsimp only
          rw [gi_i]
          by_cases e : j = 1 + k
          · rw [if_pos ⟨rfl, e⟩, e]
          · rw [if_neg (fun w => e w.2)]; exact f1 j (by omega)
        · by_cases e : m = 1 + k
          · rw [e]; exact c2
          · exact f2 m h1 (by omega)
      · rw [bit0 (by omega) (by omega)] at c2
        refine zT.ret ⟨hE2, Or.inl ⟨1 + k, rfl, by omega, by omega, by simpa using c2, f2, fun j hj => ?_⟩⟩
        dsimp only
        rw [gi_i, if_neg (by omega)]; exact f1 j hj
    · rw [nI_leI (by omega) (by omega)] at c1
      obtain ⟨l1, l2⟩ := hk (b + i) (by omega)
      refine zT.gu (inb_n (by omega) (by decide)) ?_
      rw [show nI (1 + k) - 1 = nI k from by rw [Nat.add_comm, nI_pred]]
      refine zT.gu (inb_n (by omega) (by decide)) ?_
      rw [ai_n _ _ (by omega), ai_n _ _ (by omega), hE.i (o := 217) rfl, l1, f1 k (by omega), nI_and, shI_n (by omega), nI_or]
      refine zT.ln (fun y hy => zT.ltS ?_)
      rw [nI_1]
      refine hj6 (by omega) _ ⟨by omega, ?_, rfl⟩
      dsimp only
      have hle : g (b + i) &&& nr g b N k ≤ g (b + i) := Nat.and_le_left
      rw [hy, show b + (i + 1) = (b + i) + 1 from rfl, mkm_s]
      rw [decide_eq_true (show b ≤ b + i by omega), Bool.true_and]
      by_cases q : g (b + i) &&& nr g b N k = 0
      · rw [if_pos (by rw [q]; rfl), if_neg (by simp [q])]
      · rw [if_neg (show ¬ nI (g (b + i) &&& nr g b N k) = 0 from fun w => q ((nI_eq (b := 0) (by omega) (by decide)).mp w)), if_pos (by simp [q])]
theorem XX.s218 {s t : ZSt} {T : Nat} {a : ZA} (h : XX s T a) (hE : zE p218 s t) : XX t T a := h.fr hE (fun o j e => by simp [qX, p218] at *; omega)
theorem p218_xo {s t : ZSt} (h : zE p218 s t) : zE pXo s t := h.mono (fun o j e => by simp [pXo, p218] at *; omega)
theorem p218_1 {s t : ZSt} (h : zE p218' s t) : zE p218 s t := h.mono (fun o j e => by simp [p218', p218] at *; omega)
theorem nI_nm1 {k : Nat} (h : k < 2 ^ 31) : ¬ nI k = -1 := fun w => nI_nneg h (by rw [w]; decide)
def tgP (g : Nat → Nat) (N k : Nat) (best from' : Int32) : Prop := (best = 0 ∧ from' = 0 ∧ ∀ i l, i < k → 1 ≤ l → l ≤ N → (nr g i N l).testBit i = false) ∨ (∃ L b, best = nI L ∧ from' = nI b ∧ 1 ≤ L ∧ L ≤ N ∧ b < k ∧ (nr g b N L).testBit b = true ∧ (∀ i l, i < k → 1 ≤ l → l < L → (nr g i N l).testBit i = false) ∧ ∀ i, i < b → (nr g i N L).testBit i = false)
theorem x_tellRing {n T N : Nat} {g : Nat → Nat} {s : ZSt} {a : ZA} (hn : 100 < n) (hN : N ≤ 12) (h : XX s T a) (hk : lkX s g N) : zT (f_X_tellRing n (nI N) s) (xP (sTell g N a).1 T (sTell g N a).2 s) := by
  have hp12 : 2 ^ N ≤ 4096 := Nat.pow_le_pow_right (n := 2) (by decide) hN
  generalize hr : sTell g N a = r
  unfold sTell at hr
  unfold f_X_tellRing
  refine zT.cnt 12 (fun k x => k ≤ N ∧ x.2.2.1 = nI k ∧ zE p218' s x.2.2.2 ∧ tgP g N k x.1 x.2.1) (by omega) ⟨Nat.zero_le _, rfl, zE.refl _ _, Or.inl ⟨rfl, rfl, fun i l hi => absurd hi (Nat.not_lt_zero _)⟩⟩ ?_
  rintro j k ⟨best, fr, _, t⟩ hk12 ⟨hkN, rfl, hE, f1⟩ hj
  dsimp only at *
  refine zT.ite (fun c => ?_) (fun c => ?_)
  · rw [nI_leI (by omega) (by omega)] at c
    have e : k = N := by omega
    subst e
    rcases f1 with ⟨rfl, rfl, f1⟩ | ⟨L, b, rfl, rfl, q1, q2, q3, q4, q5, q6⟩
    · rw [rg_none f1] at hr
      subst hr
      exact zT.i00 (zT.ret ⟨rfl, p218_xo (p218_1 hE), h.s218 (p218_1 hE)⟩)
    · rw [rg_some (p := (L, b)) ⟨q1, q2, q3, q4, q5, q6⟩] at hr
      have hr : (nI L, putR a (prw g b k L L)) = r := hr
      subst hr
      refine zT.ie (fun w => absurd ((nI_eq (b := 0) (by omega) (by decide)).mp w) (by omega)) ?_
      refine zT.bnT (x_ringFrom hn q3 hN (hk.fr hE)) ?_
      rintro ⟨v, u⟩ ⟨hE2, hw⟩
      dsimp only at hE2 hw
      have hnear : ∀ j, j < L → gi u 218 j = nI (nr g b k j) := by
        rcases hw with ⟨l, w1, w2, w3, w4, w5, w6⟩ | ⟨_, w⟩
        · have : l = L := by
            rcases Nat.lt_trichotomy l L with z | z | z
            · rw [q5 b l q3 w2 z] at w4; cases w4
            · exact z
            · rw [w5 L q1 z] at q4; cases q4
          rw [← this]; exact w6
        · rw [w L q1 q2] at q4; cases q4
      have hE3 := hE.trans hE2
      have hX := h.s218 (p218_1 hE3)
      have hlk := hk.fr hE3
      refine zT.ltS ?_
      refine zT.cnt 12 (fun m x => m ≤ L ∧ x.1 = nI (pv g b k L m) ∧ x.2.1 = nI (L - m) ∧ zE prx u x.2.2 ∧ XX x.2.2 T (putR a (prw g b k L m))) (by omega) ⟨Nat.zero_le _, rfl, rfl, (zE.refl _ _).wi rfl, hX.put0⟩ ?_
      rintro j8 m ⟨_, _, x⟩ hm12 ⟨hmL, rfl, rfl, hE4, hM⟩ hj8
      dsimp only at *
      obtain ⟨v1, v2⟩ := pv_lt q3 hN q4 hmL
      refine zT.ite (fun c2 => ?_) (fun c2 => ?_)
      · have c2 : nI (L - m) ≤ nI 0 := c2
        rw [nI_leI (by omega) (by omega)] at c2
        have e : m = L := by omega
        subst e
        exact zT.ret ⟨rfl, (p218_xo (p218_1 hE3)).trans (prx_xo hE4), hM⟩
      · have c2 : ¬ nI (L - m) ≤ nI 0 := c2
        rw [nI_leI (by omega) (by omega)] at c2
        refine zT.ie (nI_nm1 (by omega)) ?_
        refine zT.bnT (x_tel _ hM (by rw [prw_len]; omega)) ?_
        rintro y ⟨hE5, hM2⟩
        have hE6 := hE4.trans hE5
        refine zT.gu (inb_n (by omega) (by decide)) ?_
        rw [show L - m = (L - m - 1) + 1 by omega, nI_pred, nI_m1 (by omega)]
        refine zT.gu (inb_n (by omega) (by decide)) ?_
        obtain ⟨l1, l2⟩ := hlk _ v2
        rw [ai_n _ _ (by omega), ai_n _ _ (by omega), hE6.i (o := 217) rfl, hE6.i (o := 218) rfl, l1, hnear _ (by omega), nI_and]
        have hle : g (pv g b k L m) &&& nr g b k (L - m - 1) ≤ g (pv g b k L m) := Nat.and_le_left
        refine zT.bnE (x_lowest (by omega) (by omega)) ?_
        have hlt2 := (pv_lt q3 hN q4 (show m + 1 ≤ L by omega)).2
        have efo : fo (g (pv g b k L m) &&& nr g b k (L - m - 1)).testBit = nI (pv g b k L (m + 1)) := by
          rw [pv_s] at hlt2 ⊢
          unfold fo
          have hlt3 : ff (g (pv g b k L m) &&& nr g b k (L - m - 1)).testBit 12 < 12 := Nat.lt_of_lt_of_le hlt2 hN
          rw [if_pos hlt3]
        rw [efo]
        refine zT.ltS (hj8 (by omega) _ ⟨by omega, rfl, ?_, hE6, ?_⟩)
        · show nI (L - m - 1) = nI (L - (m + 1))
          rw [show L - m - 1 = L - (m + 1) by omega]
        · dsimp only
          rw [prw_s]; exact hM2
  · rw [nI_leI (by omega) (by omega)] at c
    refine zT.bnT (x_ringFrom hn (show k < N by omega) hN (hk.fr hE)) ?_
    rintro ⟨v, u⟩ ⟨hE2, hw⟩
    dsimp only at hE2 hw
    dsimp only
    refine zT.ln (fun y hy => zT.ltS ?_)
    rw [nI_1]
    refine hj (by omega) _ ⟨by omega, rfl, hE.trans hE2, ?_⟩
    dsimp only
    rcases hw with ⟨l, rfl, w2, w3, w4, w5, w6⟩ | ⟨rfl, w⟩
    · rw [if_neg (show ¬ nI l ≤ 0 from fun w => absurd ((nI_leI (b := 0) (by omega) (by decide)).mp w) (by omega))] at hy
      rcases f1 with ⟨rfl, rfl, f1⟩ | ⟨L, b, rfl, rfl, q1, q2, q3, q4, q5, q6⟩
      · rw [if_pos rfl] at hy
        subst hy
        refine Or.inr ⟨l, k, rfl, rfl, w2, w3, by omega, w4, fun i m hi h1 h2 => ?_, fun i hi => f1 i l hi w2 w3⟩
        by_cases e : i = k
        · rw [e]; exact w5 m h1 h2
        · exact f1 i m (by omega) h1 (by omega)
      · rw [if_neg (show ¬ nI L = 0 from fun w => absurd ((nI_eq (b := 0) (by omega) (by decide)).mp w) (by omega))] at hy
        by_cases q : L ≤ l
        · rw [if_pos ((nI_leI (by omega) (by omega)).mpr q)] at hy
          subst hy
          refine Or.inr ⟨L, b, rfl, rfl, q1, q2, by omega, q4, fun i m hi h1 h2 => ?_, q6⟩
          by_cases e : i = k
          · rw [e]; exact w5 m h1 (by omega)
          · exact q5 i m (by omega) h1 h2
        · rw [if_neg (fun w => q ((nI_leI (by omega) (by omega)).mp w))] at hy
          subst hy
          refine Or.inr ⟨l, k, rfl, rfl, w2, w3, by omega, w4, fun i m hi h1 h2 => ?_, fun i hi => q5 i l hi w2 (by omega)⟩
          by_cases e : i = k
          · rw [e]; exact w5 m h1 h2
          · exact q5 i m (by omega) h1 (by omega)
    · rw [if_pos (show (0 : Int32) ≤ 0 by decide)] at hy
      subst hy
      rcases f1 with ⟨rfl, rfl, f1⟩ | ⟨L, b, rfl, rfl, q1, q2, q3, q4, q5, q6⟩
      · refine Or.inl ⟨rfl, rfl, fun i m hi h1 h2 => ?_⟩
        by_cases e : i = k
        · rw [e]; exact w m h1 h2
        · exact f1 i m (by omega) h1 h2
      · refine Or.inr ⟨L, b, rfl, rfl, q1, q2, by omega, q4, fun i m hi h1 h2 => ?_, q6⟩
        by_cases e : i = k
        · rw [e]; exact w m h1 (by omega)
        · exact q5 i m (by omega) h1 h2
end Z57
