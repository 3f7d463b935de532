-- lost in the class
section Z79
theorem opA_b {a : ZA} (h : okA a) {b : Nat} (hb : opA a b = true) : b < a.2.1.1 := by
  rcases Nat.lt_or_ge b a.2.1.1 with w | w
  · exact w
  · have := tb_big (any_n (okS_f h)) w
    rw [show (anyw a.2.2.2.1.1).testBit b = opA a b from rfl, hb] at this
    cases this
theorem x_afterS {n T b : Nat} {s : ZSt} {a : ZA} (hn : 60 < n) (h : XX s T a) (hb : b < a.2.1.1) : zT (f_T_after n (gl s 1 8) (nI (60 + b)) s) (fun q => q.1 = lN (cSh a b) ∧ zE pmb s q.2 ∧ XX q.2 T a) := by
  have hnb := h.1.2.2.2.1
  have e := x_now h
  obtain ⟨hA, ⟨st, hst, hB⟩, hO⟩ := h
  rw [e]
  refine (t_after (a := 60 + b) hn hB.1 (okS_f hA) (by omega) (by omega)).mono ?_
  rintro ⟨_, u⟩ ⟨rfl, hE, hK⟩
  exact ⟨by dsimp only; rw [aft_60 (by omega)]; rfl, hE, XX.smb hA hst hB hO hE hK⟩
def fnd (a : ZA) (Q : ZQ) (b : Nat) : Bool := decide (qat Q (cSh a b) < Q.1)
set_option maxHeartbeats 1000000 in
theorem x_lost {n T : Nat} {s : ZSt} {a : ZA} (hn : 20000 < n) (h : XX s T a) (hS : XS s) : zT (f_X_lost n s) (xPS (sLost a).1 T (sLost a).2 s) := by
  have hA := h.1
  have hnb := h.1.2.2.2.1
  have h12 := pw_12 hnb
  have hany := any_lt (okS_f h.1) hnb
  generalize hr : sLost a = r
  unfold sLost at hr
  unfold f_X_lost
  rw [x_now h, gd_any (okS_f h.1) hnb]
  refine zT.ltS ?_
  refine zT.ite (fun c => ?_) (fun c => ?_)
  · have c := (nI_eq (b := 0) (by omega) (by decide)).mp c
    have ho : ∀ b, opA a b = false := fun b => by unfold opA; rw [c, Nat.zero_testBit]
    rw [lsr_some a.2.1.1 (fun b hb w => by rw [ho] at w; cases w), show mkm (lb a) a.2.1.1 = 0 from mkm_0 (fun i hi => by unfold lb; rw [ho]; rfl)] at hr
    subst hr
    exact zT.ret ⟨rfl, zE.refl _ _, h, hS⟩
  have c : anyw a.2.2.2.1.1 ≠ 0 := fun w => c (by rw [w]; rfl)
  obtain ⟨b0, hb0⟩ := nz_bit c
  have hb0 : opA a b0 = true := hb0
  refine zT.bnT (x_from (c := 0) hn h hS okF_0 (by decide)) ?_
  rintro ⟨w, s2⟩ ⟨hE2, hX2, hS2, hB⟩
  dsimp only at *
  cases h0 : sch (sucA a wal) 0 with
  | none =>
    rw [h0] at hB
    have hB : w = false := hB
    rw [hB]
    rw [lsr_none hb0 (sAf_no hA h0 b0) a.2.1.1 (opA_b hA hb0)] at hr
    subst hr
    exact zT.ie (by decide) (zT.ret ⟨rfl, hE2, hX2, hS2⟩)
  | some x =>
  obtain ⟨Q, ed⟩ := x
  rw [h0] at hB
  obtain ⟨hw, ⟨cl, sl', hXH⟩, _⟩ := hB
  have hw : w = true := hw
  rw [hw]
  have hul := qun_lt Q Q.1
  refine zT.it rfl ?_
  have mk12 : ∀ (p : Nat → Bool) (k : Nat), k ≤ 12 → mkm p k < 4096 := fun p k hk => Nat.lt_of_lt_of_le (mkm_lt p k) (Nat.pow_le_pow_right (n := 2) (by decide) hk)
  refine zT.cnt 12 (fun k x => x.1 = nI (mkm (fun b => opA a b && !fnd a Q b) k) ∧ x.2.1 = nI (mkm (fun b => opA a b && (fnd a Q b && !(qun Q Q.1).testBit b)) k) ∧ x.2.2.1 = nI k ∧ zE pmb s2 x.2.2.2 ∧ XX x.2.2.2 T a) (by omega) ⟨rfl, rfl, rfl, zE.refl _ _, hX2⟩ ?_
  rintro j k ⟨_, _, _, u⟩ hk ⟨rfl, rfl, rfl, hE, hX⟩ hj
  dsimp only at *
  have l1 := mk12 (fun b => opA a b && !fnd a Q b) k hk
  have l2 := mk12 (fun b => opA a b && (fnd a Q b && !(qun Q Q.1).testBit b)) k hk
  refine zT.ite (fun q => ?_) (fun q => ?_)
  · rw [show (12 : Int32) = nI 12 from rfl, nI_leI (by omega) (by omega)] at q
    have e : k = 12 := by omega
    subst e
    have hSu : XS u := hS2.o (pmb_xo hE)
    refine zT.cnt 12 (fun k x => (∃ g, x.1 = nI g ∧ g < 4096 ∧ ∀ i, g.testBit i = ((decide (i < k) || !(opA a i && !fnd a Q i)) && lb a i)) ∧ x.2.1 = nI k ∧ zE pXS s x.2.2 ∧ XX x.2.2 T a ∧ XS x.2.2 ∧ ∀ b, b < k → opA a b = true → sAf a b ≠ none) (by omega) ⟨⟨_, rfl, l2, fun i => ?_⟩, rfl, hE2.trans (xo_xS (pmb_xo hE)), hX, hSu, fun b hb => absurd hb (Nat.not_lt_zero _)⟩ ?_
    · rw [mkm_t]
      unfold lb
      cases ho : opA a i
      · simp
      · have hi := opA_b hA ho
        cases hf : fnd a Q i
        · simp
        · obtain ⟨Q', e', he1, he2⟩ := sAf_yes hA h0 (b := i) (of_decide_eq_true hf)
          rw [he1]
          unfold lbB
          dsimp only
          rw [he2, decide_eq_true (show i < 12 by omega)]
          simp
    rintro j9 k ⟨_, _, v⟩ hk2 ⟨⟨g, rfl, hg, hgb⟩, rfl, hE3, hX3, hS3, hno⟩ hj9
    dsimp only at *
    refine zT.ite (fun q => ?_) (fun q => ?_)
    · rw [show (12 : Int32) = nI 12 from rfl, nI_leI (by omega) (by omega)] at q
      have e : k = 12 := by omega
      subst e
      rw [lsr_some a.2.1.1 (fun b hb => hno b (by omega))] at hr
      subst hr
      refine zT.ret ⟨?_, hE3, hX3, hS3⟩
      show nI g = nI (mkm (lb a) a.2.1.1)
      congr 1
      apply Nat.eq_of_testBit_eq
      intro i
      rw [hgb, mkm_t]
      cases ho : lb a i
      · simp
      · have ho2 : opA a i = true := by unfold lb at ho; simp at ho; exact ho.1
        have hi := opA_b hA ho2
        rw [decide_eq_true hi, decide_eq_true (show i < 12 by omega)]
        rfl
    · rw [show (12 : Int32) = nI 12 from rfl, nI_leI (by omega) (by omega)] at q
      have hkp : 2 ^ k < 2 ^ 12 := Nat.pow_lt_pow_right (by decide) (by omega)
      refine zT.jnQ (fun y => (∃ g, y.1 = nI g ∧ g < 4096 ∧ ∀ i, g.testBit i = ((decide (i < k + 1) || !(opA a i && !fnd a Q i)) && lb a i)) ∧ zE pXS s y.2 ∧ XX y.2 T a ∧ XS y.2 ∧ (opA a k = true → sAf a k ≠ none)) ?_ ?_
      · rintro ⟨_, y⟩ ⟨⟨g', rfl, z1, z2⟩, z3, z4, z5, z6⟩
        rw [nI_1]
        refine zT.ltS (hj9 (by omega) _ ⟨⟨g', rfl, z1, z2⟩, rfl, z3, z4, z5, fun b hb => ?_⟩)
        by_cases e : b = k
        · rw [e]; exact z6
        · exact hno b (by omega)
      · intro j13 hj13
        refine zT.ite (fun c3 => ?_) (fun c3 => ?_)
        · rw [bit0 (by omega) (by omega), mkm_t, decide_eq_true (show k < 12 by omega), Bool.true_and] at c3
          refine hj13 _ ⟨⟨g, rfl, hg, fun i => ?_⟩, hE3, hX3, hS3, fun ho => ?_⟩
          · rw [hgb]
            by_cases e : i = k
            · subst e
              rw [c3]; simp
            · have : (i < k + 1) ↔ (i < k) := by omega
              simp [this]
          · have hf : fnd a Q k = true := by
              rw [ho] at c3
              cases w : fnd a Q k
              · rw [w] at c3; cases c3
              · rfl
            obtain ⟨Q', e', he1, he2⟩ := sAf_yes hA h0 (b := k) (of_decide_eq_true hf)
            rw [he1]
            exact fun w => by cases w
        · have c3 : (opA a k && !fnd a Q k) = true := by
            cases w : (opA a k && !fnd a Q k)
            · exfalso
              apply c3
              rw [bit0 (by omega) (by omega), mkm_t, decide_eq_true (show k < 12 by omega), Bool.true_and]
              exact w
            · rfl
          have ho : opA a k = true := by
            cases w : opA a k
            · rw [w] at c3; cases c3
            · rfl
          have hkb := opA_b hA ho
          rw [show (60 : Int32) = nI 60 from rfl, nI_add]
          refine zT.bnT (x_afterS (by omega) hX3 hkb) ?_
          rintro ⟨_, v2⟩ ⟨rfl, hE4, hX4⟩
          dsimp only at *
          obtain ⟨g1, g2⟩ := cSh_ok hA k
          refine zT.bnT (x_from hn hX4 (hS3.o (pmb_xo hE4)) g1 g2) ?_
          rintro ⟨w, v3⟩ ⟨hE5, hX5, hS5, hB5⟩
          dsimp only at *
          have hs5 : sch (sucA a wal) (cSh a k) = sAf a k := rfl
          rw [hs5] at hB5
          have hE35 := hE3.trans ((xo_xS (pmb_xo hE4)).trans hE5)
          cases hq : sAf a k with
          | none =>
            rw [hq] at hB5
            have hB5 : w = false := hB5
            rw [hB5]
            rw [lsr_none ho hq a.2.1.1 hkb] at hr
            subst hr
            exact zT.ie (by decide) (zT.ret ⟨rfl, hE35, hX5, hS5⟩)
          | some x =>
            obtain ⟨Q5, ed5⟩ := x
            rw [hq] at hB5
            obtain ⟨hw5, ⟨cl5, sl5, hXH5⟩, _⟩ := hB5
            have hw5 : w = true := hw5
            have hul5 := qun_lt Q5 Q5.1
            rw [hw5, shI_n (by omega)]
            refine zT.it rfl (zT.bnE (hXH5.union hn) ?_)
            rw [nI_andn, nI_or]
            have hl5 : ndf (2 ^ k) (qun Q5 Q5.1) < 2 ^ 12 := Nat.lt_of_le_of_lt (ndf_le _ _) hkp
            have hbk : lb a k = !(qun Q5 Q5.1).testBit k := by
              unfold lb
              rw [ho, hq]; rfl
            refine zT.ltS (hj13 _ ⟨⟨_, rfl, Nat.or_lt_two_pow (n := 12) hg hl5, fun i => ?_⟩, hE35, hX5, hS5, fun _ => fun w => by rw [hq] at w; cases w⟩)
            rw [Nat.testBit_or, hgb, ndf_t, tb2]
            by_cases e : k = i
            · subst e
              rw [decide_eq_true rfl, c3, hbk]
              simp
            · have : (i < k + 1) ↔ (i < k) := by omega
              simp [this, e]
  · rw [show (12 : Int32) = nI 12 from rfl, nI_leI (by omega) (by omega)] at q
    have hkp : 2 ^ k < 2 ^ 12 := Nat.pow_lt_pow_right (by decide) (by omega)
    refine zT.jnQ (fun y => y.1 = nI (mkm (fun b => opA a b && !fnd a Q b) (k + 1)) ∧ y.2.1 = nI (mkm (fun b => opA a b && (fnd a Q b && !(qun Q Q.1).testBit b)) (k + 1)) ∧ zE pmb s2 y.2.2 ∧ XX y.2.2 T a) ?_ ?_
    · rintro ⟨_, _, y⟩ ⟨rfl, rfl, z1, z2⟩
      rw [nI_1]
      exact zT.ltS (hj (by omega) _ ⟨rfl, rfl, rfl, z1, z2⟩)
    · intro j22 hj22
      rw [mkm_s, mkm_s] at hj22
      refine zT.ite (fun c3 => ?_) (fun c3 => ?_)
      · rw [bit0 (by omega) (by omega)] at c3
        have c3 : opA a k = false := c3
        rw [c3] at hj22
        exact hj22 _ ⟨rfl, rfl, hE, hX⟩
      · have ho : opA a k = true := by
          cases w : opA a k
          · exact absurd ((bit0 (by omega) (by omega)).mpr w) c3
          · rfl
        have hkb := opA_b hA ho
        rw [show (60 : Int32) = nI 60 from rfl, nI_add]
        refine zT.bnT (x_afterS (by omega) hX hkb) ?_
        rintro ⟨_, v2⟩ ⟨rfl, hE4, hX4⟩
        dsimp only at *
        obtain ⟨g1, g2⟩ := cSh_ok hA k
        have hXH4 : XH v2 Q cl sl' := hXH.fr (hE.trans hE4) (fun o j e => by simp [pmb] at *; omega)
        refine zT.bnE (hXH4.index hn g2) ?_
        rw [ho, Bool.true_and, Bool.true_and] at hj22
        rw [shI_n (by omega)]
        by_cases hf : qat Q (cSh a k) < Q.1
        · have hf2 : fnd a Q k = true := decide_eq_true hf
          have hq5 := hXH4.2.2.2.1.2.2
          rw [hf2] at hj22
          rw [if_pos hf]
          refine zT.ie (nI_nm1 (by omega)) (zT.bnE (hXH4.union hn) ?_)
          rw [nI_andn, nI_or]
          refine zT.ltS (hj22 _ ⟨rfl, ?_, hE.trans hE4, hX4⟩)
          dsimp only
          rw [Bool.true_and]
          congr 1
          by_cases hb : (qun Q Q.1).testBit k = true
          · rw [hb, if_neg (by decide), (ndf_2 _ _).mpr hb, Nat.or_zero]
          · have hb : (qun Q Q.1).testBit k = false := by cases w : (qun Q Q.1).testBit k; rfl; exact absurd w hb
            rw [hb, if_pos (by decide)]
            congr 1
            apply Nat.eq_of_testBit_eq
            intro i
            rw [ndf_t, tb2]
            by_cases e : k = i
            · subst e; rw [hb]; simp
            · simp [e]
        · have hf2 : fnd a Q k = false := decide_eq_false hf
          rw [hf2] at hj22
          rw [if_neg hf]
          refine zT.it rfl ?_
          rw [nI_or]
          exact zT.ltS (hj22 _ ⟨rfl, rfl, hE.trans hE4, hX4⟩)
end Z79
