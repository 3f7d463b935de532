-- judge
section Z47
def jn8 (x y : Int32) (k : Nat) : Nat := (usrI (if k < 4 then x else y) (nI (8 * (k % 4)))).toBitVec.toNat % 256
theorem jn_lt (x y : Int32) (k : Nat) : jn8 x y k < 256 := Nat.mod_lt _ (by decide)
def jru (a : ZA) (x y : Int32) : Nat → ZA × Int32
  | 0 => (a, -2)
  | k + 1 => if (jru a x y k).2 = -2 then (if jn8 x y k < 140 ∧ jn8 x y k % 20 < a.2.1.1 ∧ awy (jru a x y k).1 (jn8 x y k) = 0 then (aact (jru a x y k).1 (jn8 x y k), -2) else ((jru a x y k).1, nI k)) else jru a x y k
theorem jru_s (a : ZA) (x y : Int32) (k : Nat) : jru a x y (k + 1) = if (jru a x y k).2 = -2 then (if jn8 x y k < 140 ∧ jn8 x y k % 20 < a.2.1.1 ∧ awy (jru a x y k).1 (jn8 x y k) = 0 then (aact (jru a x y k).1 (jn8 x y k), -2) else ((jru a x y k).1, nI k)) else jru a x y k := rfl
theorem jru_put (a : ZA) (x y : Int32) (k : Nat) : (jru a x y k).1 = putA a (jru a x y k).1.2.2.2.1.1 (jru a x y k).1.2.2.2.1.2.1 := by
  induction k with
  | zero => rfl
  | succ k ih =>
    rw [jru_s]
    split
    · split
      · show aact (jru a x y k).1 (jn8 x y k) = putA a (aact (jru a x y k).1 (jn8 x y k)).2.2.2.1.1 (aact (jru a x y k).1 (jn8 x y k)).2.2.2.1.2.1
        rw [ih]; rfl
      · exact ih
    · exact ih
theorem jru_stop {a : ZA} {x y : Int32} {k : Nat} (h : (jru a x y k).2 ≠ -2) (m : Nat) : jru a x y (k + m) = jru a x y k := by
  induction m with
  | zero => rfl
  | succ m ih =>
    rw [show k + (m + 1) = (k + m) + 1 by omega, jru_s, ih, if_neg h]
theorem jru_ans (a : ZA) (x y : Int32) (k : Nat) : (jru a x y k).2 = -2 ∨ ∃ r, r < k ∧ (jru a x y k).2 = nI r := by
  induction k with
  | zero => exact Or.inl rfl
  | succ k ih =>
    rw [jru_s]
    split
    · split
      · exact Or.inl rfl
      · exact Or.inr ⟨k, by omega, rfl⟩
    · rcases ih with h | ⟨r, hr, e⟩
      · exact Or.inl h
      · exact Or.inr ⟨r, by omega, e⟩
def jrow (f : Nat → Nat) : List Int32 := [nI (f 0), nI (f 1), nI (f 2)]
def sJudge (n x y : Int32) (a : ZA) : Int32 × ZA := if 0 ≤ n ∧ n ≤ 8 then ((jru a x y n.toNatClampNeg).2, putR a (jrow (jru a x y n.toNatClampNeg).1.2.2.2.1.1)) else (-1, a)
theorem in08 (v : Int32) : f_M_in v.toInt64 (0 : Int64) (8 : Int64) = decide (0 ≤ v ∧ v ≤ 8) := in_i v 0 8
theorem byte_n {x : Int32} {j : Nat} (hj : j < 4) : usrI x (nI (8 * j)) &&& 255 = nI ((usrI x (nI (8 * j))).toBitVec.toNat % 256) := pk_and _ (m := 255) 8 (by decide)
theorem byte_s {x : Int32} {j : Nat} (hj : j < 4) : srI x (nI (8 * j)) &&& 255 = nI ((usrI x (nI (8 * j))).toBitVec.toNat % 256) := by
  have := sr255 x (k := 3 - j) (by omega)
  rw [show 24 - 8 * (3 - j) = 8 * j by omega] at this
  rw [this, byte_n hj]
def pju : Nat → Nat → Bool := fun o _ => o == 116 || o == 108 || o == 105
theorem m_judge {n' : Nat} {s : ZSt} {a : ZA} (n x y : Int32) (hn : 60 < n') (h : MA s a) : zT (f_M_judge n' n x y s) (mP (sJudge n x y a).1 (sJudge n x y a).2 s) := by
  have hnb := h.1.2.2.2.1
  generalize hr : sJudge n x y a = r
  unfold sJudge at hr
  unfold f_M_judge
  refine zT.ln (fun s1 hs1 => ?_)
  obtain ⟨hz, hE0, h00⟩ := mz h hs1
  clear hs1
  rw [in08]
  refine zT.ite (fun c => ?_) (fun c => ?_)
  · rw [decide_eq_true_eq] at c
    rw [if_pos c] at hr
    obtain ⟨m, hm, rfl⟩ : ∃ m, m < 9 ∧ n = nI m := by
      rcases nI_cases n 9 (by decide) with q | q | q
      · exact q
      · exact absurd c.1 (Int32.not_le.mpr q)
      · exact absurd (Int32.le_trans q c.2) (by decide)
    rw [nI_clamp (by omega)] at hr
    refine zT.bnT (m_putsBy s1 (by omega)) ?_
    rintro s2 ⟨hE1, by1, by2⟩
    have hM1 : MA s2 a := hz.fr hE1 (fun o j e => by simp [qM, p123] at *; omega)
    have b1 : ∀ k, k < 3 → gi s2 123 k = nI (a.2.2.2.1.1 k) := fun k hk => by rw [by1 k hk]; exact hz.2.1.2.2.2.2.1 k hk
    have b2 : ∀ k, k < 12 → gi s2 124 k = a.2.2.2.1.2.1 k := fun k hk => by rw [by2 k hk]; exact hz.2.1.2.2.1 k hk
    have hEa : zE pMo s s2 := hE0.trans (hE1.mono (fun o j e => by simp [pMo, p123] at *; omega))
    refine zT.jnQ (fun z => z.1 = (jru a x y m).2 ∧ zE pju s2 z.2 ∧ MA z.2 (jru a x y m).1) ?_ ?_
    · rintro ⟨_, u⟩ ⟨rfl, hE, hM⟩
      dsimp only at *
      refine zT.ltS ?_
      have hS := hM.2.1.S
      refine zT.cnt 3 (fun k z => z.1 = nI k ∧ zE prm u z.2 ∧ MA z.2 (putR (jru a x y m).1 ((jrow (jru a x y m).1.2.2.2.1.1).take k))) (by omega) ⟨rfl, (zE.refl _ _).wi rfl, hM.put0⟩ ?_
      rintro j k ⟨_, v⟩ hk ⟨rfl, hE2, hM2⟩ hj
      dsimp only at *
      refine zT.ite (fun c3 => ?_) (fun c3 => ?_)
      · rw [show (3 : Int32) = nI 3 from rfl, nI_leI (by omega) (by omega)] at c3
        have e : k = 3 := by omega
        subst e
        refine zT.bnT (m_putsBack v (by omega)) ?_
        rintro w ⟨hE3, bk1, bk2⟩
        subst hr
        have hMw : MA w (putA (putR (jru a x y m).1 (jrow (jru a x y m).1.2.2.2.1.1)) a.2.2.2.1.1 a.2.2.2.1.2.1) := by
          refine hM2.put hE3 (fun o j e1 e2 => by simp [qM, p185] at *; omega) ?_ ?_
          · have := okA_rw hz.1 (rw := jrow (jru a x y m).1.2.2.2.1.1) (show 3 ≤ 12 by decide)
            rw [jru_put]; exact this
          · have hC : MC v (putR (jru a x y m).1 ((jrow (jru a x y m).1.2.2.2.1.1).take 3)) := hM2.2.1
            obtain ⟨q1, q2, q3, q4, q5, q6⟩ := hC
            refine ⟨q1.fr hE3 ⟨rfl, rfl, fun _ => rfl, fun _ => rfl, fun _ => rfl, fun _ => rfl⟩, fun b hb => (hE3.i rfl).trans (q2 b hb), fun b hb => ?_, fun b hb => ⟨(hE3.i rfl).trans (q4 b hb).1, (q4 b hb).2⟩, fun b hb => ?_, ?_⟩
            · rw [bk2 b hb, hE2.i rfl, hE.i rfl]; exact b2 b hb
            · rw [bk1 b hb, hE2.i rfl, hE.i rfl]; exact b1 b hb
            · have e : (jru a x y m).1.2.1 = a.2.1 := by rw [jru_put]; rfl
              show okF (jru a x y m).1.2.1.1 a.2.2.2.1.1
              rw [e]; exact hz.1.2.2.2.2.2.2.2.1.1
        have ee : putA (putR (jru a x y m).1 (jrow (jru a x y m).1.2.2.2.1.1)) a.2.2.2.1.1 a.2.2.2.1.2.1 = putR a (jrow (jru a x y m).1.2.2.2.1.1) := by
          generalize jrow (jru a x y m).1.2.2.2.1.1 = L
          rw [jru_put]; rfl
        rw [ee] at hMw
        exact zT.ret ⟨rfl, hEa.trans ((hE.mono (fun o j e => by simp [pMo, pju] at *; omega)).trans ((prm_mo hE2).trans (hE3.mono (fun o j e => by simp [pMo, p185] at *; omega)))), hMw⟩
      · rw [show (3 : Int32) = nI 3 from rfl, nI_leI (by omega) (by omega)] at c3
        refine zT.gu (inb_n (by omega) (by decide)) ?_
        rw [ai_n _ _ (by omega), show gi v 108 k = nI ((jru a x y m).1.2.2.2.1.1 k) from hM2.2.1.2.2.2.2.1 k (by omega)]
        refine zT.bnT (m_ent _ hM2 (by rw [List.length_take]; omega)) ?_
        rintro w ⟨hE3, hM3⟩
        refine zT.ltS ?_
        rw [nI_1]
        refine hj (by omega) _ ⟨rfl, hE2.trans hE3, ?_⟩
        rcases (show k = 0 ∨ k = 1 ∨ k = 2 by omega) with rfl | rfl | rfl <;> exact hM3
    · intro j13 hj13
      refine zT.cnt m (fun k z => z.1 = (jru a x y k).2 ∧ z.2.1 = nI k ∧ zE pju s2 z.2.2 ∧ MA z.2.2 (jru a x y k).1) (by omega) ⟨rfl, rfl, zE.refl _ _, hM1⟩ ?_
      rintro j k ⟨_, _, u⟩ hk ⟨rfl, rfl, hE, hM⟩ hj
      dsimp only at *
      refine zT.ite (fun c2 => ?_) (fun c2 => ?_)
      · rw [nI_leI (by omega) (by omega)] at c2
        have e : k = m := by omega
        subst e
        exact hj13 _ ⟨rfl, hE, hM⟩
      · rw [nI_leI (by omega) (by omega)] at c2
        refine zT.ite (fun c3 => ?_) (fun c3 => ?_)
        · have hne : (jru a x y k).2 ≠ -2 := fun q => by rw [q] at c3; exact absurd c3 (by decide)
          have e := jru_stop hne (m - k)
          rw [show k + (m - k) = m by omega] at e
          exact hj13 _ ⟨by rw [e], hE, by rw [e]; exact hM⟩
        · have he : (jru a x y k).2 = -2 := by
            rcases jru_ans a x y k with q | ⟨r, hr', q⟩
            · exact q
            · rw [q] at c3; exact absurd (nI_pos' (by omega)) c3
          refine zT.ln (fun x18 hx => zT.ln (fun v19 hv => ?_))
          have hv : v19 = nI (jn8 x y k) := by
            rw [hv, hx, show (4 : Int32) = nI 4 from rfl, nI_rem (by omega) (by omega) (by omega), show (8 : Int32) = nI 8 from rfl, nI_mulL, byte_s (by omega)]
            unfold jn8
            by_cases q : k < 4
            · rw [if_pos q, if_neg (show ¬ nI 4 ≤ nI k from nI_ge q (by decide))]
            · rw [if_neg q, if_pos (nI_le (by omega) (by omega))]
          subst hv
          have hlt := jn_lt x y k
          refine zT.jnQ (fun z => z.1 = (jru a x y (k + 1)).2 ∧ zE pju s2 z.2 ∧ MA z.2 (jru a x y (k + 1)).1) ?_ ?_
          · rintro ⟨_, v⟩ ⟨rfl, q1, q2⟩
            refine zT.ltS ?_
            rw [nI_1]
            exact hj (by omega) _ ⟨rfl, rfl, q1, q2⟩
          · intro j22 hj22
            have eb : (jru a x y k).1.2.1.1 = a.2.1.1 := by rw [jru_put]; rfl
            rw [jru_s, if_pos he] at hj22
            refine zT.jnQ (fun z => ¬ (jn8 x y k < 140 ∧ jn8 x y k % 20 < a.2.1.1 ∧ awy (jru a x y k).1 (jn8 x y k) = 0) ∧ zE pju s2 z ∧ MA z (jru a x y k).1) ?_ ?_
            · rintro z ⟨q1, q2, q3⟩
              rw [if_neg q1] at hj22
              exact hj22 _ ⟨rfl, q2, q3⟩
            · intro j24 hj24
              refine zT.ite (fun c4 => ?_) (fun c4 => ?_)
              · rw [m_isAct hM.2.1.1.1 (by rw [eb]; exact hnb)] at c4
                have c4 : jn8 x y k < 140 ∧ jn8 x y k % 20 < a.2.1.1 := by
                  obtain ⟨k', hk', hb, e⟩ := c4
                  rw [nI_eq (by omega) (by omega)] at e
                  rw [e, ← eb]; exact ⟨hk', hb⟩
                have hb' : jn8 x y k % 20 < (jru a x y k).1.2.1.1 := by rw [eb]; exact c4.2
                refine zT.bnT (m_whyNot hn hM.2.1 c4.1 hb') ?_
                rintro ⟨w, t⟩ ⟨hw, hE2⟩
                dsimp only at *
                have hw : w = awy (jru a x y k).1 (jn8 x y k) := hw
                have hM2 := hM.s116 hE2
                have hE3 : zE pju s2 t := hE.trans (hE2.mono (fun o j e => by simp [pju, p116] at *; omega))
                refine zT.ite (fun c5 => ?_) (fun c5 => ?_)
                · have hw0 : awy (jru a x y k).1 (jn8 x y k) = 0 := by rw [← hw]; exact c5
                  rw [if_pos ⟨c4.1, c4.2, hw0⟩] at hj22
                  refine zT.bnT (m_make hn hM2 c4.1 hb' hw0) ?_
                  rintro ⟨_, v⟩ ⟨_, hE4, hM4⟩
                  exact hj22 _ ⟨he, hE3.trans (hE4.mono (fun o j e => by simp [pju, pmak] at *; omega)), hM4⟩
                · exact hj24 _ ⟨fun q => c5 (by rw [hw]; exact q.2.2), hE3, hM2⟩
              · rw [m_isAct hM.2.1.1.1 (by rw [eb]; exact hnb)] at c4
                exact hj24 _ ⟨fun q => c4 ⟨_, q.1, by rw [eb]; exact q.2.1, rfl⟩, hE, hM⟩
  · rw [decide_eq_true_eq] at c
    rw [if_neg c] at hr
    subst hr
    exact zT.ret ⟨rfl, hE0, hz⟩
theorem zb_216 : z_isA 1 216 12 = true := by decide +kernel
theorem x_spentBy {n nb : Nat} {lim opn : Nat → Int32} {s : ZSt} (hn : 12 < n) (hnb : nb ≤ 12) (h3 : gi s 201 2 = nI nb) (hl : ∀ b, b < nb → gi s (300 + b) 3 = lim b) (ho : ∀ b, b < nb → gi s 216 b = opn b) : f_X_spentBy n 216 s = some (nI (spk (loo lim opn) nb)) := by
  apply zT.eq
  unfold f_X_spentBy
  refine zT.gu zb_216 ?_
  refine zT.cnt 12 (fun k x => k ≤ nb ∧ x = (nI (spk (loo lim opn) k), nI k)) hn ⟨Nat.zero_le _, rfl⟩ ?_
  rintro j k _ hk ⟨hkr, rfl⟩ hj
  dsimp only
  rw [h3]
  refine zT.ite (fun h => ?_) (fun h => ?_)
  · rw [nI_leI (by omega) (by omega)] at h
    have e : k = nb := by omega
    subst e
    exact zT.ret rfl
  · rw [nI_leI (by omega) (by omega)] at h
    refine zT.gu (inb_n (by omega) (by decide)) ?_
    rw [ra_b (by omega), ai_n _ _ (by omega), ho k (by omega), hl k (by omega)]
    refine zT.ln (fun x hx => zT.ltS ?_)
    rw [nI_1]
    refine hj (by omega) _ ⟨by omega, ?_⟩
    rw [hx, spk_s]
    unfold loo
    by_cases q : opn k < lim k
    · rw [if_pos q, if_pos (decide_eq_true q)]
    · rw [if_neg q, if_neg (by simpa using q), shI_n (by omega), nI_or]
def pxj : Nat → Nat → Bool := fun o _ => o == 243 || o == 244 || (decide (440 ≤ o) && decide (o < 475)) || o == 216
set_option maxHeartbeats 1000000 in
theorem x_judge {n' T : Nat} {s : ZSt} {a : ZA} (n x y : Int32) (hn : 60 < n') (h : XX s T a) : zT (f_X_judge n' n x y s) (xP (sJudge n x y a).1 T (sJudge n x y a).2 s) := by
  have hnb := h.1.2.2.2.1
  obtain ⟨hA, ⟨st, hst, hB⟩, hO⟩ := id h
  generalize hr : sJudge n x y a = r
  unfold sJudge at hr
  unfold f_X_judge
  refine zT.ite (fun c0 => ?_) (fun c0 => ?_)
  · rw [if_neg (fun q => absurd q.1 (Int32.not_le.mpr c0))] at hr
    subst hr
    exact zT.ret ⟨rfl, zE.refl _ _, h⟩
  refine zT.ite (fun c => ?_) (fun c => ?_)
  · rw [if_pos ⟨Int32.not_lt.mp c0, c⟩] at hr
    obtain ⟨m, hm, rfl⟩ : ∃ m, m < 9 ∧ n = nI m := by
      rcases nI_cases n 9 (by decide) with q | q | q
      · exact q
      · exact absurd q c0
      · exact absurd (Int32.le_trans q c) (by decide)
    rw [nI_clamp (by omega)] at hr
    refine zT.cnt 12 (fun k z => k ≤ a.2.1.1 ∧ z.1 = nI k ∧ zE (fun o _ => o == 216) s z.2 ∧ ∀ b, b < k → gi z.2 216 b = a.2.2.2.1.2.1 b) (by omega) ⟨Nat.zero_le _, rfl, zE.refl _ _, fun b hb => absurd hb (Nat.not_lt_zero _)⟩ ?_
    rintro j k ⟨_, u⟩ hk ⟨hkn, rfl, hE, hta⟩ hj
    dsimp only at *
    rw [hE.i (o := 201) rfl, hB.1.1.1]
    refine zT.ite (fun c1 => ?_) (fun c1 => ?_)
    · rw [nI_leI (by omega) (by omega)] at c1
      have e : k = a.2.1.1 := by omega
      subst e
      clear hj
      have hXu : XX u T a := h.fr hE (fun o j e => by simp [qX] at *; omega)
      obtain ⟨_, ⟨st2, hst2, hB2⟩, hO2⟩ := id hXu
      rw [hB2.2.2.2.1]
      refine zT.ltS ?_
      have hEj : zE pxj s u := hE.mono (fun o j e => by simp [pxj] at *; omega)
      refine zT.jnQ (fun z => z.1 = lN (en (jru a x y m).1.2.2.2.1.1) ∧ z.2.1 = (jru a x y m).2 ∧ zE pxj s z.2.2 ∧ XX z.2.2 T a ∧ okF a.2.1.1 (jru a x y m).1.2.2.2.1.1) ?_ ?_
      · rintro ⟨_, _, v⟩ ⟨rfl, rfl, hE1, hX1, hF1⟩
        dsimp only at *
        refine zT.ltS ?_
        refine zT.cnt 3 (fun k z => z.1 = nI k ∧ zE prx v z.2 ∧ XX z.2 T (putR a ((jrow (jru a x y m).1.2.2.2.1.1).take k))) (by omega) ⟨rfl, (zE.refl _ _).wi rfl, hX1.put0⟩ ?_
        rintro j k ⟨_, w⟩ hk ⟨rfl, hE2, hM2⟩ hj
        dsimp only at *
        refine zT.ite (fun c3 => ?_) (fun c3 => ?_)
        · rw [show (3 : Int32) = nI 3 from rfl, nI_leI (by omega) (by omega)] at c3
          have e : k = 3 := by omega
          subst e
          subst hr
          exact zT.ret ⟨rfl, (hE1.mono (fun o j e => by simp [pXo, pxj] at *; omega)).trans (prx_xo hE2), hM2⟩
        · rw [show (3 : Int32) = nI 3 from rfl, nI_leI (by omega) (by omega)] at c3
          rw [on_e (hF1.S hnb) (by omega)]
          refine zT.bnT (x_tel _ hM2 (by rw [List.length_take]; omega)) ?_
          rintro w ⟨hE3, hM3⟩
          refine zT.ltS ?_
          rw [nI_1]
          refine hj (by omega) _ ⟨rfl, hE2.trans hE3, ?_⟩
          rcases (show k = 0 ∨ k = 1 ∨ k = 2 by omega) with rfl | rfl | rfl <;> exact hM3
      · intro j14 hj14
        refine zT.cnt m (fun k z => z.1 = lN (en (jru a x y k).1.2.2.2.1.1) ∧ z.2.1 = (jru a x y k).2 ∧ z.2.2.1 = nI k ∧ zE pxj s z.2.2.2 ∧ XX z.2.2.2 T a ∧ okF a.2.1.1 (jru a x y k).1.2.2.2.1.1 ∧ ∀ b, b < a.2.1.1 → gi z.2.2.2 216 b = (jru a x y k).1.2.2.2.1.2.1 b) (by omega) ⟨rfl, rfl, rfl, hEj, hXu, hA.2.2.2.2.2.2.2.1.1, hta⟩ ?_
        rintro j k ⟨_, _, _, v⟩ hk ⟨rfl, rfl, rfl, hE1, hX1, hF1, hta1⟩ hj
        dsimp only at *
        refine zT.ite (fun c2 => ?_) (fun c2 => ?_)
        · rw [nI_leI (by omega) (by omega)] at c2
          have e : k = m := by omega
          subst e
          exact hj14 _ ⟨rfl, rfl, hE1, hX1, hF1⟩
        · rw [nI_leI (by omega) (by omega)] at c2
          refine zT.ite (fun c3 => ?_) (fun c3 => ?_)
          · refine zT.ln (fun x18 hx => zT.ln (fun v19 hv => ?_))
            have hv : v19 = nI (jn8 x y k) := by
              rw [hv, hx]
              unfold jn8
              by_cases q : k < 4
              · rw [if_pos q, if_neg (show ¬ (4 : Int32) ≤ nI k from nI_ge q (by decide)), show (8 : Int32) = nI 8 from rfl, nI_mulL, byte_n q, show k % 4 = k by omega]
              · rw [if_neg q, if_pos (show (4 : Int32) ≤ nI k from nI_le (a := 4) (by omega) (by omega)), show (4 : Int32) = nI 4 from rfl, pk_sub (by omega), show (8 : Int32) = nI 8 from rfl, nI_mulL, byte_n (by omega), show k % 4 = k - 4 by omega]
            subst hv
            have hlt := jn_lt x y k
            obtain ⟨_, ⟨st3, hst3, hB3⟩, hO3⟩ := id hX1
            refine zT.bnE (x_spentBy (by omega) hnb hB3.1.1.1 hB3.2.1 hta1) ?_
            have e1 : (jru a x y k).1.2.1 = a.2.1 := by rw [jru_put]; rfl
            have e2 : aD (jru a x y k).1 = aD a := by rw [jru_put]; rfl
            have ewy : ∀ q, awy (jru a x y k).1 q = wy (aD a) a.2.1.2.2.2.2.2 (jru a x y k).1.2.2.2.1.1 (loo a.2.1.2.2.2.2.1 (jru a x y k).1.2.2.2.1.2.1) q := fun q => by unfold awy; rw [e1, e2]
            have eaf : ∀ q, (aact (jru a x y k).1 q).2.2.2.1.1 = aft (aD a) a.2.1.1 (jru a x y k).1.2.2.2.1.1 q := fun q => by
              show aft (aD (jru a x y k).1) (jru a x y k).1.2.1.1 (jru a x y k).1.2.2.2.1.1 q = _
              rw [e1, e2]
            have hG : jn8 x y k < 140 → jn8 x y k % 20 < a.2.1.1 → okF a.2.1.1 (aft (aD a) a.2.1.1 (jru a x y k).1.2.2.2.1.1 (jn8 x y k)) := fun q1 q2 => aft_ok hF1 q1 q2
            have href : zT (f_T_refusal n' (lN (en (jru a x y k).1.2.2.2.1.1)) (nI (spk (loo a.2.1.2.2.2.2.1 (jru a x y k).1.2.2.2.1.2.1) a.2.1.1)) (nI (jn8 x y k)) v) (fun q => (q.1 = 0 ↔ (jn8 x y k < 140 ∧ jn8 x y k % 20 < a.2.1.1 ∧ awy (jru a x y k).1 (jn8 x y k) = 0)) ∧ zE pmb v q.2 ∧ XX q.2 T a) := by
              by_cases cv : jn8 x y k < 140 ∧ jn8 x y k % 20 < a.2.1.1
              · refine (t_refusal hn hB3.1 hF1 (spk_12 _ hnb) spk_lo cv.1 cv.2).mono ?_
                rintro ⟨w, t⟩ ⟨hw, hE2, hK⟩
                refine ⟨?_, hE2, XX.smb hA hst3 hB3 hO3 hE2 hK⟩
                rw [show (w, t).1 = w from rfl, show w = awy (jru a x y k).1 (jn8 x y k) from by rw [ewy]; exact hw]
                exact ⟨fun q => ⟨cv.1, cv.2, q⟩, fun q => q.2.2⟩
              · refine zT.val (t_refusalN hB3.1 (fun q => ?_)) ⟨?_, zE.refl _ _, hX1⟩
                · obtain ⟨k', hk', hb, e⟩ := q
                  rw [nI_eq (by omega) (by omega)] at e
                  rw [← e] at hk' hb
                  exact cv ⟨hk', hb⟩
                · exact ⟨fun q => absurd q (show ¬ (-1 : Int32) = 0 by decide), fun q => absurd ⟨q.1, q.2.1⟩ cv⟩
            refine zT.bnT href ?_
            rintro ⟨rf, w⟩ ⟨hiff, hE2, hX2⟩
            have hE3 : zE pxj s w := hE1.trans (hE2.mono (fun o j e => by simp [pxj, pmb] at *; omega))
            have hta2 : ∀ b, b < a.2.1.1 → gi w 216 b = (jru a x y k).1.2.2.2.1.2.1 b := fun b hb => (hE2.i rfl).trans (hta1 b hb)
            refine zT.jnQ (fun z => z.1 = lN (en (jru a x y (k + 1)).1.2.2.2.1.1) ∧ z.2.1 = (jru a x y (k + 1)).2 ∧ zE pxj s z.2.2 ∧ XX z.2.2 T a ∧ okF a.2.1.1 (jru a x y (k + 1)).1.2.2.2.1.1 ∧ ∀ b, b < a.2.1.1 → gi z.2.2 216 b = (jru a x y (k + 1)).1.2.2.2.1.2.1 b) ?_ ?_
            · rintro ⟨_, _, z⟩ ⟨rfl, rfl, q1, q2, q3, q4⟩
              refine zT.ltS ?_
              rw [nI_1]
              exact hj (by omega) _ ⟨rfl, rfl, rfl, q1, q2, q3, q4⟩
            · intro j25 hj25
              rw [jru_s, if_pos c3] at hj25
              dsimp only at hiff ⊢
              refine zT.ite (fun c4 => ?_) (fun c4 => ?_)
              · have hc := hiff.mp c4
                rw [if_pos hc] at hj25
                have e20 : (nI (jn8 x y k) / (20 : Int32)) = nI (jn8 x y k / 20) := div20 (by omega)
                rw [e20, rem20 (by omega)]
                refine zT.jnQ (fun z => zE pxj s z ∧ XX z T a ∧ ∀ b, b < a.2.1.1 → gi z 216 b = opa (jru a x y k).1.2.2.2.1.2.1 (jn8 x y k) b) ?_ ?_
                · rintro z ⟨q1, q2, q3⟩
                  obtain ⟨_, ⟨st4, hst4, hB4⟩, hO4⟩ := id q2
                  refine zT.bnT (t_after hn hB4.1 hF1 hc.1 hc.2.1) ?_
                  rintro ⟨_, y2⟩ ⟨rfl, hE4, hK4⟩
                  refine hj25 _ ⟨?_, c3, q1.trans (hE4.mono (fun o j e => by simp [pxj, pmb] at *; omega)), XX.smb hA hst4 hB4 hO4 hE4 hK4, ?_, fun b hb => ?_⟩
                  · rw [eaf]; rfl
                  · rw [eaf]; exact hG hc.1 hc.2.1
                  · exact (hE4.i rfl).trans (q3 b hb)
                · intro j29 hj29
                  refine zT.ite (fun c5 => ?_) (fun c5 => ?_)
                  · rw [show (3 : Int32) = nI 3 from rfl, nI_leI (by omega) (by omega)] at c5
                    refine hj29 _ ⟨hE3, hX2, fun b hb => ?_⟩
                    unfold opa
                    rw [if_neg (by omega)]; exact hta2 b hb
                  · rw [show (3 : Int32) = nI 3 from rfl, nI_leI (by omega) (by omega)] at c5
                    refine zT.gu (inb_n (by omega) (by decide)) ?_
                    rw [ai_n _ _ (by omega), sai_n _ _ _ (by omega), hta2 _ hc.2.1]
                    refine zT.ltS (hj29 _ ⟨hE3.wi rfl, hX2.fr (p := fun o _ => o == 216) ((zE.refl _ _).wi rfl) (fun o j e => by simp [qX] at *; omega), fun b hb => ?_⟩)
                    unfold opa
                    rw [if_pos (by omega), gi_i, ups_i]
                    by_cases e : b = jn8 x y k % 20
                    · rw [if_pos ⟨rfl, e⟩, if_pos e]
                    · rw [if_neg (fun q => e q.2), if_neg e]; exact hta2 b hb
              · rw [if_neg (fun q => c4 (hiff.mpr q))] at hj25
                exact hj25 _ ⟨rfl, rfl, hE3, hX2, hF1, hta2⟩
          · have e := jru_stop c3 (m - k)
            rw [show k + (m - k) = m by omega] at e
            exact hj14 _ ⟨by rw [e], by rw [e], hE1, hX1, by rw [e]; exact hF1⟩
    · rw [nI_leI (by omega) (by omega)] at c1
      refine zT.gu (inb_n (by omega) (by decide)) ?_
      rw [ra_b (by omega), sai_n _ _ _ (by omega), hE.i (by simp; omega), hB.2.2.1 k (by omega)]
      refine zT.ltS (zT.ltS ?_)
      rw [nI_1]
      refine hj (by omega) _ ⟨by omega, rfl, hE.wi rfl, fun b hb => ?_⟩
      dsimp only
      rw [gi_i]
      by_cases e : b = k
      · rw [if_pos ⟨rfl, e⟩, e]
      · rw [if_neg (fun q => e q.2)]; exact hta b (by omega)
  · rw [if_neg (fun q => c q.2)] at hr
    subst hr
    exact zT.ret ⟨rfl, zE.refl _ _, h⟩
end Z47
