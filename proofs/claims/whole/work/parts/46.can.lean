-- can, judge
section Z46
def cok (a : ZA) (k : Nat) : Bool := decide (k % 20 < a.2.1.1 ∧ ¬ (60 ≤ k ∧ k < 80) ∧ awy a k = 0)
def cnr (a : ZA) : Nat → Nat × List Int32
  | 0 => (0, [])
  | k + 1 => if cok a k = true then ((cnr a k).1 + 1, if (cnr a k).1 < 8 then (cnr a k).2 ++ [nI k] else (cnr a k).2) else cnr a k
theorem cnr_s (a : ZA) (k : Nat) : cnr a (k + 1) = if cok a k = true then ((cnr a k).1 + 1, if (cnr a k).1 < 8 then (cnr a k).2 ++ [nI k] else (cnr a k).2) else cnr a k := rfl
theorem cnr_len (a : ZA) (k : Nat) : (cnr a k).1 ≤ k ∧ (cnr a k).2.length ≤ 8 ∧ (cnr a k).2.length ≤ (cnr a k).1 := by
  induction k with
  | zero => exact ⟨Nat.le_refl _, Nat.zero_le _, Nat.le_refl _⟩
  | succ k ih =>
    rw [cnr_s]
    by_cases c : cok a k = true
    · rw [if_pos c]
      by_cases q : (cnr a k).1 < 8
      · rw [if_pos q]
        refine ⟨by omega, ?_, ?_⟩ <;> (rw [List.length_append]; simp; omega)
      · rw [if_neg q]; exact ⟨by omega, ih.2.1, by have := ih.2.2; dsimp only; omega⟩
    · rw [if_neg c]; exact ⟨by omega, ih.2⟩
def sCan (a : ZA) : Int32 × ZA := (nI (cnr a 140).1, putR a (cnr a 140).2)
theorem cok_R (a : ZA) (rw : List Int32) (k : Nat) : cok (putR a rw) k = cok a k := rfl
theorem in6079 (v : Int32) : f_M_in v.toInt64 (60 : Int64) (79 : Int64) = decide (60 ≤ v ∧ v ≤ 79) := in_i v 60 79
theorem m_can {n : Nat} {s : ZSt} {a : ZA} (hn : 140 < n) (h : MA s a) : zT (f_M_can n s) (mP (sCan a).1 (sCan a).2 s) := by
  have hnb := h.1.2.2.2.1
  unfold f_M_can
  refine zT.ln (fun s1 hs1 => ?_)
  obtain ⟨hz, hE0, h00⟩ := mz h hs1
  clear hs1
  refine zT.ltS ?_
  refine zT.cnt 140 (fun k x => x.1 = nI (cnr a k).1 ∧ x.2.1 = nI k ∧ zE pMo s x.2.2 ∧ MA x.2.2 (putR a (cnr a k).2)) hn ⟨rfl, rfl, hE0.wi rfl, hz.put0⟩ ?_
  rintro j k ⟨_, _, u⟩ hk ⟨rfl, rfl, hE, hM⟩ hj
  dsimp only at *
  refine zT.ite (fun c => ?_) (fun c => ?_)
  · rw [show (140 : Int32) = nI 140 from rfl, nI_leI (by omega) (by omega)] at c
    have e : k = 140 := by omega
    subst e
    exact zT.ret ⟨rfl, hE, hM⟩
  · rw [show (140 : Int32) = nI 140 from rfl, nI_leI (by omega) (by omega)] at c
    refine zT.jnQ (fun y => y.1 = nI (cnr a (k + 1)).1 ∧ zE pMo s y.2 ∧ MA y.2 (putR a (cnr a (k + 1)).2)) ?_ ?_
    · rintro ⟨_, v⟩ ⟨rfl, q1, q2⟩
      refine zT.ltS ?_
      rw [nI_1]
      exact hj (by omega) _ ⟨rfl, rfl, q1, q2⟩
    · intro j8 hj8
      have skip : ∀ v, cok a k = false → zE pMo s v → MA v (putR a (cnr a k).2) → zT (j8 (nI (cnr a k).1, v)) (mP (sCan a).1 (sCan a).2 s) := fun v q q1 q2 => by
        refine hj8 _ ⟨?_, q1, ?_⟩
        · rw [cnr_s, if_neg (by rw [q]; decide)]
        · rw [cnr_s, if_neg (by rw [q]; decide)]; exact q2
      refine zT.ite (fun c1 => ?_) (fun c1 => ?_)
      · rw [m_isAct hM.2.1.1.1 hnb] at c1
        have c1 : k % 20 < a.2.1.1 := by
          obtain ⟨k', _, hb, e⟩ := c1
          rw [nI_eq (by omega) (by omega)] at e
          rw [e]; exact hb
        rw [in6079]
        refine zT.ite (fun c2 => ?_) (fun c2 => ?_)
        · rw [decide_eq_true_eq, show (60 : Int32) = nI 60 from rfl, show (79 : Int32) = nI 79 from rfl, nI_leI (by omega) (by omega), nI_leI (by omega) (by omega)] at c2
          exact skip _ (decide_eq_false (fun q => q.2.1 (by omega))) hE hM
        · rw [decide_eq_true_eq, show (60 : Int32) = nI 60 from rfl, show (79 : Int32) = nI 79 from rfl, nI_leI (by omega) (by omega), nI_leI (by omega) (by omega)] at c2
          refine zT.bnT (m_whyNot (by omega) hM.2.1 (by omega) c1) ?_
          rintro ⟨w, t⟩ ⟨hw, hE2⟩
          dsimp only at *
          have hw : w = awy a k := hw
          have hM2 := hM.s116 hE2
          have hE3 := hE.trans (p116_mo hE2)
          refine zT.ite (fun c3 => ?_) (fun c3 => ?_)
          · have hck : cok a k = true := decide_eq_true ⟨c1, by omega, by rw [← hw]; exact c3⟩
            obtain ⟨l1, l2, l3⟩ := cnr_len a k
            refine zT.jnQ (fun y => zE pMo s y ∧ MA y (putR a (if (cnr a k).1 < 8 then (cnr a k).2 ++ [nI k] else (cnr a k).2))) ?_ ?_
            · rintro y ⟨q1, q2⟩
              refine zT.ltS ?_
              rw [nI_1]
              refine hj8 _ ⟨?_, q1, ?_⟩
              · rw [cnr_s, if_pos hck]
              · rw [cnr_s, if_pos hck]; exact q2
            · intro j15 hj15
              refine zT.ite (fun c4 => ?_) (fun c4 => ?_)
              · rw [show (8 : Int32) = nI 8 from rfl, nI_leI (by omega) (by omega)] at c4
                rw [if_neg (show ¬ (cnr a k).1 < 8 by omega)] at hj15
                exact hj15 _ ⟨hE3, hM2⟩
              · rw [show (8 : Int32) = nI 8 from rfl, nI_leI (by omega) (by omega)] at c4
                rw [if_pos (show (cnr a k).1 < 8 by omega)] at hj15
                refine zT.bnT (m_ent _ hM2 (by omega)) ?_
                rintro v ⟨hE4, hM4⟩
                exact hj15 _ ⟨hE3.trans (prm_mo hE4), hM4⟩
          · exact skip _ (decide_eq_false (fun q => c3 (by rw [hw]; exact q.2.2))) hE3 hM2
      · rw [m_isAct hM.2.1.1.1 hnb] at c1
        exact skip _ (decide_eq_false (fun q => c1 ⟨k, by omega, q.1, rfl⟩)) hE hM
theorem pos_bit2 {D : ZD} {nb : Nat} {rm f : Nat → Nat} {lo : Nat → Bool} {sp kind b : Nat} (hF : okF nb f) (h4 : 4 ≤ kind) (h7 : kind < 7) (hb : b < 20) : (pos D nb rm f sp kind).testBit b = (decide (b < nb) && decide (wy D rm f lo (20 * kind + b) = 0)) := by
  have e1 : (20 * kind + b) % 20 = b := by omega
  have e2 : (20 * kind + b) / 20 = kind := by omega
  have ek : ktb kind = kind - 4 := by unfold ktb; rw [if_neg (by omega)]
  rw [Bool.eq_iff_iff, Bool.and_eq_true, decide_eq_true_eq, decide_eq_true_eq]
  unfold pos wy
  rw [if_neg (by omega), if_neg (show ¬ 20 * kind + b < 60 by omega), if_neg (show ¬ 20 * kind + b < 80 by omega), e1, e2, ek]
  have ha := @any_bit f b
  have htb : (f (kind - 4)).testBit b = true ↔ tof f b = kind - 4 := ⟨fun h => tof_of hF.2 (by omega) h, fun h => by
    have := tof_bit (f := f) (b := b) (by omega)
    rwa [h] at this⟩
  have hl3 := tof_le f b
  by_cases c : pcn (f (kind - 4)) < rm (kind - 4)
  · rw [if_pos c, if_neg (by omega), Nat.testBit_and, ndf_t, mmk_t]
    by_cases h1 : tof f b = 3 ∨ tof f b = kind - 4
    · rw [if_pos h1]
      constructor
      · intro h
        rw [Bool.and_eq_true, Bool.and_eq_true] at h
        rcases h1 with h1 | h1
        · exact absurd (ha.mp h.1.1) (by omega)
        · rw [htb.mpr h1] at h; simp at h
      · intro h; exact absurd h.2 (by decide)
    · rw [if_neg h1, npl_0, ha.mpr (by omega)]
      have : (f (kind - 4)).testBit b = false := by
        cases q : (f (kind - 4)).testBit b
        · rfl
        · exact absurd (Or.inr (htb.mp q)) h1
      rw [this]
      simp [c]
  · rw [if_neg c, Nat.zero_testBit]
    constructor
    · intro h; cases h
    · rintro ⟨_, h⟩
      split at h
      · exact absurd h (by decide)
      · exact absurd (npl_0.mp h).1 c
theorem cnr_20 (a : ZA) (hnb : a.2.1.1 ≤ 12) (k m : Nat) (hm : m ≤ 8) : cnr a (20 * k + 12 + m) = cnr a (20 * k + 12) := by
  induction m with
  | zero => rfl
  | succ m ih =>
    rw [show 20 * k + 12 + (m + 1) = (20 * k + 12 + m) + 1 by omega, cnr_s, if_neg, ih (by omega)]
    unfold cok
    rw [decide_eq_true_eq]
    rintro ⟨h, _⟩
    omega
theorem x_can {n T : Nat} {s : ZSt} {a : ZA} (hn : 140 < n) (h : XX s T a) : zT (f_X_can n s) (xP (sCan a).1 T (sCan a).2 s) := by
  have hnb := h.1.2.2.2.1
  obtain ⟨hA, ⟨st, hst, hB⟩, hO⟩ := id h
  have hF := hA.2.2.2.2.2.2.2.1.1
  have h12 : 2 ^ a.2.1.1 ≤ 4096 := Nat.pow_le_pow_right (n := 2) (by decide) hnb
  unfold f_X_can
  refine zT.bnE (t_spent (by omega) hB) (zT.ltS ?_)
  refine zT.cnt 7 (fun k x => x.1 = nI (cnr a (20 * k)).1 ∧ x.2.1 = nI k ∧ zE pXo s x.2.2 ∧ XX x.2.2 T (putR a (cnr a (20 * k)).2)) (by omega) ⟨rfl, rfl, (zE.refl _ _).wi rfl, h.put0⟩ ?_
  rintro j k ⟨_, _, u⟩ hk ⟨rfl, rfl, hE, hX⟩ hj
  dsimp only at *
  refine zT.ite (fun c => ?_) (fun c => ?_)
  · rw [show (7 : Int32) = nI 7 from rfl, nI_leI (by omega) (by omega)] at c
    have e : k = 7 := by omega
    subst e
    exact zT.ret ⟨rfl, hE, hX⟩
  · rw [show (7 : Int32) = nI 7 from rfl, nI_leI (by omega) (by omega)] at c
    refine zT.jnQ (fun y => ∃ m, y.1 = nI m ∧ m < 4096 ∧ (∀ b, b < 12 → m.testBit b = cok a (20 * k + b)) ∧ zE pXo s y.2 ∧ XX y.2 T (putR a (cnr a (20 * k)).2)) ?_ ?_
    · rintro ⟨_, v⟩ ⟨m, rfl, hm, hmb, hE2, hX2⟩
      dsimp only at *
      refine zT.cnt 12 (fun b x => x.1 = nI (cnr a (20 * k + b)).1 ∧ x.2.1 = nI b ∧ zE pXo s x.2.2 ∧ XX x.2.2 T (putR a (cnr a (20 * k + b)).2)) (by omega) ⟨rfl, rfl, hE2, hX2⟩ ?_
      rintro j8 b ⟨_, _, w⟩ hb ⟨rfl, rfl, hE3, hX3⟩ hj8
      dsimp only at *
      refine zT.ite (fun c1 => ?_) (fun c1 => ?_)
      · rw [show (12 : Int32) = nI 12 from rfl, nI_leI (by omega) (by omega)] at c1
        have e : b = 12 := by omega
        subst e
        refine zT.ltS ?_
        rw [nI_1]
        have e20 := cnr_20 a hnb k 8 (by omega)
        refine hj (by omega) _ ⟨?_, rfl, hE3, ?_⟩
        · rw [show 20 * (k + 1) = 20 * k + 12 + 8 by omega, e20]
        · rw [show 20 * (k + 1) = 20 * k + 12 + 8 by omega, e20]; exact hX3
      · rw [show (12 : Int32) = nI 12 from rfl, nI_leI (by omega) (by omega)] at c1
        refine zT.jnQ (fun y => y.1 = nI (cnr a (20 * k + b + 1)).1 ∧ zE pXo s y.2 ∧ XX y.2 T (putR a (cnr a (20 * k + b + 1)).2)) ?_ ?_
        · rintro ⟨_, v⟩ ⟨rfl, q1, q2⟩
          refine zT.ltS ?_
          rw [nI_1]
          exact hj8 (by omega) _ ⟨rfl, rfl, q1, q2⟩
        · intro j13 hj13
          obtain ⟨l1, l2, l3⟩ := cnr_len a (20 * k + b)
          rw [cnr_s] at hj13
          refine zT.ite (fun c2 => ?_) (fun c2 => ?_)
          · rw [bit0 (by omega) (by omega), hmb b (by omega)] at c2
            rw [if_neg (by rw [c2]; decide)] at hj13
            exact hj13 _ ⟨rfl, hE3, hX3⟩
          · rw [bit0 (by omega) (by omega), hmb b (by omega)] at c2
            rw [if_pos (by simpa using c2)] at hj13
            refine zT.ltS ?_
            rw [nI_1]
            refine zT.ite (fun c3 => ?_) (fun c3 => ?_)
            · rw [show (8 : Int32) = nI 8 from rfl, nI_ltI (by omega) (by omega)] at c3
              rw [if_neg (show ¬ (cnr a (20 * k + b)).1 < 8 by omega)] at hj13
              exact hj13 _ ⟨rfl, hE3, hX3⟩
            · rw [show (8 : Int32) = nI 8 from rfl, nI_ltI (by omega) (by omega)] at c3
              rw [if_pos (show (cnr a (20 * k + b)).1 < 8 by omega)] at hj13
              rw [show (20 : Int32) = nI 20 from rfl, nI_mulL, nI_add, Nat.mul_comm k 20]
              refine zT.bnT (x_tel _ hX3 (by omega)) ?_
              rintro y ⟨hE4, hX4⟩
              exact hj13 _ ⟨rfl, hE3.trans (prx_xo hE4), hX4⟩
    · intro j18 hj18
      refine zT.ite (fun c1 => ?_) (fun c1 => ?_)
      · rw [show (3 : Int32) = nI 3 from rfl, nI_eq (by omega) (by omega)] at c1
        refine hj18 _ ⟨0, rfl, by decide, fun b hb => ?_, hE, hX⟩
        rw [Nat.zero_testBit]
        exact (decide_eq_false (fun q => q.2.1 (by omega))).symm
      · rw [show (3 : Int32) = nI 3 from rfl, nI_eq (by omega) (by omega)] at c1
        obtain ⟨_, ⟨st2, hst2, hB2⟩, hO2⟩ := id hX
        have hnow : gl u 1 8 = lN (en a.2.2.2.1.1) := hB2.2.2.2.1
        rw [hnow]
        refine zT.bnT (t_possible (sp := spk (loo a.2.1.2.2.2.2.1 a.2.2.2.1.2.1) a.2.1.1) (by omega) hB2.1 hF (by omega)) ?_
        rintro ⟨_, v⟩ ⟨rfl, hE2, hK⟩
        dsimp only
        have hpl := pos_lt (D := aD a) (rm := a.2.1.2.2.2.2.2) (sp := spk (loo a.2.1.2.2.2.2.1 a.2.2.2.1.2.1) a.2.1.1) (kind := k) hF
        refine hj18 _ ⟨_, rfl, Nat.lt_of_lt_of_le hpl h12, fun b hb => ?_, hE.trans (pmb_xo hE2), XX.smb (a := putR a (cnr a (20 * k)).2) hX.1 hst2 hB2 hO2 hE2 hK⟩
        have hc : cok a (20 * k + b) = (decide (b < a.2.1.1) && decide (awy a (20 * k + b) = 0)) := by
          unfold cok
          rw [Bool.eq_iff_iff, Bool.and_eq_true, decide_eq_true_eq, decide_eq_true_eq, decide_eq_true_eq, show (20 * k + b) % 20 = b by omega]
          constructor
          · rintro ⟨h1, _, h2⟩; exact ⟨h1, h2⟩
          · rintro ⟨h1, h2⟩; exact ⟨h1, by omega, h2⟩
        rw [hc]
        by_cases c3 : k < 3
        · exact pos_bit c3 (by omega)
        · exact pos_bit2 hF (by omega) (by omega) (by omega)
end Z46
