-- a reader's turn in the class
section Z42
theorem aftA_ok {a : ZA} (h : okA a) {k : Nat} (hk : k < 140) (hb : k % 20 < a.2.1.1) : okF a.2.1.1 (aftA a k) := aft_ok h.2.2.2.2.2.2.2.1.1 hk hb
theorem hlp_0 {a : ZA} {t k : Nat} : hlp a 0 t k = false := by
  unfold hlp
  rw [Nat.zero_and]; rfl
theorem x_leading {n r T st books kind : Nat} {s : ZSt} {a : ZA} (hn : 60 < n) (hA : okA a) (hB : XB s st a) (hO : XO s T a) (hr : r < a.2.2.1.1) (hbk : books < 2 ^ a.2.1.1) (hkind : kind ≤ 3) :
    zT (f_X_leading n (nI books) (nI kind) (500 + r) s) (fun q => q.1 = fo (fun b => books.testBit b && hlp a (lef a r) (a.2.2.2.1.2.2.2.1 r) (20 * kind + b)) ∧ zE pmb s q.2 ∧ XK q.2 a.2.1.1 (aD a) a.2.1.2.2.2.2.2 st) := by
  have hnb := hA.2.2.2.1
  have hnr := hA.2.2.2.2.2.1
  have h12 : 2 ^ a.2.1.1 ≤ 4096 := Nat.pow_le_pow_right (n := 2) (by decide) hnb
  have hl := lef_lt hA hr
  have ht := (hA.2.2.2.2.2.2.2.1.2.2.1 r hr).2
  have hF := hA.2.2.2.2.2.2.2.1.1
  unfold f_X_leading
  refine zT.gu (zb_R r (by omega)) (zT.bnE (x_left hA hO hr) (zT.bnE (t_spent (by omega) hB) ?_))
  rw [show ndf (a.2.2.1.2.2 r) (a.2.2.2.1.2.2.1 r) = lef a r from rfl]
  refine zT.cnt 12 (fun k x => x.1 = nI k ∧ zE pmb s x.2 ∧ XK x.2 a.2.1.1 (aD a) a.2.1.2.2.2.2.2 st ∧ ∀ j, j < k → (books.testBit j && hlp a (lef a r) (a.2.2.2.1.2.2.2.1 r) (20 * kind + j)) = false) (by omega) ⟨rfl, zE.refl _ _, hB.1, fun j hj => absurd hj (Nat.not_lt_zero _)⟩ ?_
  rintro j k ⟨_, u⟩ hk ⟨rfl, hE, hK, hno⟩ hj
  dsimp only at *
  refine zT.ite (fun c => ?_) (fun c => ?_)
  · rw [show (12 : Int32) = nI 12 from rfl, nI_leI (by omega) (by omega)] at c
    exact zT.ret ⟨(fo_no (fun b hb => hno b (by omega))).symm, hE, hK⟩
  · rw [show (12 : Int32) = nI 12 from rfl, nI_leI (by omega) (by omega)] at c
    refine zT.ite (fun c2 => ?_) (fun c2 => ?_)
    · have e0 : lef a r = 0 := (nI_eq (by omega) (by omega)).mp c2
      refine zT.ret ⟨(fo_no (fun b hb => ?_)).symm, hE, hK⟩
      rw [e0, hlp_0, Bool.and_false]
    · refine zT.jnQ (fun y => zE pmb s y ∧ XK y a.2.1.1 (aD a) a.2.1.2.2.2.2.2 st ∧ (books.testBit k && hlp a (lef a r) (a.2.2.2.1.2.2.2.1 r) (20 * kind + k)) = false) ?_ ?_
      · rintro y ⟨q1, q2, q3⟩
        refine zT.ltS ?_
        rw [nI_1]
        refine hj (by omega) _ ⟨rfl, q1, q2, fun i hi => ?_⟩
        by_cases e : i = k
        · rw [e]; exact q3
        · exact hno i (by omega)
      · intro j9 hj9
        refine zT.ite (fun c3 => ?_) (fun c3 => ?_)
        · rw [bit0 (by omega) (by omega)] at c3
          exact hj9 _ ⟨hE, hK, by rw [c3]; rfl⟩
        · rw [bit0 (by omega) (by omega)] at c3
          have c3 : books.testBit k = true := by simpa using c3
          have hkn : k < a.2.1.1 := by
            rcases Nat.lt_or_ge k a.2.1.1 with q | q
            · exact q
            · rw [tb_big hbk q] at c3; cases c3
          have hnow : gl u 1 8 = lN (en a.2.2.2.1.1) := (hE.l (o := 1) rfl).trans hB.2.2.2.1
          rw [hnow, show (20 : Int32) = nI 20 from rfl, nI_mulL, nI_add, Nat.mul_comm kind 20]
          have hk1 : 20 * kind + k < 140 := by omega
          have hk2 : (20 * kind + k) % 20 < a.2.1.1 := by omega
          refine zT.bnT (t_after hn hK hF hk1 hk2) ?_
          rintro ⟨_, v⟩ ⟨rfl, hE2, hK2⟩
          dsimp only at *
          have hsit : gi v (500 + r) 1 = nI (a.2.2.2.1.2.2.2.1 r) := by
            rw [hE2.i (by simp [pmb]; omega), hE.i (by simp [pmb]; omega)]; exact (hO.2.2.2.2.1.2.1 r hr).2.1
          rw [hsit]
          refine zT.bnT (t_possible (sp := spk (loo a.2.1.2.2.2.2.1 a.2.2.2.1.2.1) a.2.1.1) (kind := a.2.2.2.1.2.2.2.1 r) hn hK2 (aftA_ok hA hk1 hk2) (by omega)) ?_
          rintro ⟨_, w⟩ ⟨rfl, hE3, hK3⟩
          dsimp only at *
          have hpl : posA a (aftA a (20 * kind + k)) (a.2.2.2.1.2.2.2.1 r) < 2 ^ a.2.1.1 := pos_lt (aftA_ok hA hk1 hk2)
          have hand : lef a r &&& posA a (aftA a (20 * kind + k)) (a.2.2.2.1.2.2.2.1 r) < 4096 := Nat.lt_of_le_of_lt Nat.and_le_left (by omega)
          rw [show nI (lef a r) &&& nI (pos (aD a) a.2.1.1 a.2.1.2.2.2.2.2 (aft (aD a) a.2.1.1 a.2.2.2.1.1 (20 * kind + k)) (spk (loo a.2.1.2.2.2.2.1 a.2.2.2.1.2.1) a.2.1.1) (a.2.2.2.1.2.2.2.1 r)) = nI (lef a r &&& posA a (aftA a (20 * kind + k)) (a.2.2.2.1.2.2.2.1 r)) from nI_and _ _]
          refine zT.ite (fun c4 => ?_) (fun c4 => ?_)
          · have e0 := (nI_eq (a := lef a r &&& posA a (aftA a (20 * kind + k)) (a.2.2.2.1.2.2.2.1 r)) (b := 0) (by omega) (by omega)).mp c4
            refine hj9 _ ⟨(hE.trans hE2).trans hE3, hK3, ?_⟩
            unfold hlp
            rw [decide_eq_false (fun q => q e0), Bool.and_false]
          · refine zT.ret ⟨(fo_at (by omega) ?_ hno).symm, (hE.trans hE2).trans hE3, hK3⟩
            rw [c3, Bool.true_and]
            unfold hlp
            exact decide_eq_true (fun q => c4 (by rw [q]; rfl))
def pxu : Nat → Nat → Bool := fun o j => o == 243 || o == 244 || (decide (440 ≤ o) && decide (o < 475)) || (o == 1 && (j == 8 || j == 11)) || (decide (300 ≤ o) && decide (o < 312)) || (o == 201 && j == 5) || (decide (500 ≤ o) && decide (o < 506) && j == 3) || o == 210
theorem pxu_xo {s t : ZSt} (h : zE pxu s t) : zE pXo s t := h.mono (fun o j e => by simp [pXo, pxu] at *; omega)
set_option maxHeartbeats 2000000 in
theorem x_turn {n r T : Nat} {s : ZSt} {a : ZA} (hn : 60 < n) (h : XX s T a) (hT : T < 2 ^ 28) (hr : r < a.2.2.1.1) : zT (f_X_turn n (nI r) s) (fun q => q.1 = decide (0 < (trn a r).1) ∧ zE pxu s q.2 ∧ XX q.2 (T + 2) (aLog (trn a r).2 (100 * nI r + (trn a r).1))) := by
  have hnb := h.1.2.2.2.1
  have hnr := h.1.2.2.2.2.2.1
  obtain ⟨hA, ⟨st, hst, hB⟩, hO⟩ := id h
  have ht := (hA.2.2.2.2.2.2.2.1.2.2.1 r hr).2
  have hF := hA.2.2.2.2.2.2.2.1.1
  have hl := lef_lt hA hr
  have h12 : 2 ^ a.2.1.1 ≤ 4096 := Nat.pow_le_pow_right (n := 2) (by decide) hnb
  generalize hx : trn a r = x
  unfold trn at hx
  unfold f_X_turn
  refine zT.gu (inb_n (by omega) (by decide)) ?_
  rw [ra_r (by omega), (hO.2.2.2.2.1.2.1 r hr).2.1, hB.2.2.2.1]
  refine zT.bnE (x_left hA hO hr) (zT.ltS ?_)
  rw [show ndf (a.2.2.1.2.2 r) (a.2.2.2.1.2.2.1 r) = lef a r from rfl, on_e hB.S ht, nI_and]
  have hand : lef a r &&& a.2.2.2.1.1 (a.2.2.2.1.2.2.2.1 r) < 2 ^ a.2.1.1 := Nat.lt_of_le_of_lt Nat.and_le_left hl
  refine zT.bnE (x_lowest (by omega) (by omega)) ?_
  have nte : ∀ {t : ZSt} {a' : ZA} {T' : Nat} (w u : Int32) (c : Nat) (b : Bool), c < 13 → u * 20 = nI (20 * c) → XX t T' a' → T' ≤ T + 1 → zE pxu s t → x.2 = a' → ∀ (z : Nat), z < 13 → w = nI z → x.1 = nI (20 * c + z) → b = decide (0 < x.1) → zT (bn (f_X_note (nI r) u w t) (fun p => some (b, p))) (fun q => q.1 = decide (0 < x.1) ∧ zE pxu s q.2 ∧ XX q.2 (T + 2) (aLog x.2 (100 * nI r + x.1))) := by
    rintro t a' T' w u c b hc hu hX hT' hE hxa z hz rfl hx1 hb
    refine zT.bnT (x_note (v := 100 * nI r + x.1) (nI r) u (nI z) ?_ (by omega) hX) ?_
    · rw [hx1, Int32.mul_comm 20 u, hu, show (100 : Int32) = nI 100 from rfl, nI_mulL, nI_add, nI_add, nI_add]
      exact congrArg nI (by omega)
    · rintro v ⟨hE2, hX2⟩
      refine zT.ret ⟨hb, hE.trans (hE2.mono (fun o j e => by simp [pxu, pxn] at *; omega)), ?_⟩
      rw [hxa]
      exact hX2.mono (by omega)
  rcases fo_cases (lef a r &&& a.2.2.2.1.1 (a.2.2.2.1.2.2.2.1 r)).testBit with ⟨e, hno⟩ | ⟨b, hb, e, h1, _⟩
  · have c0 : lef a r &&& a.2.2.2.1.1 (a.2.2.2.1.2.2.2.1 r) = 0 := by
      apply Classical.byContradiction
      intro q
      obtain ⟨i, hi⟩ := nz_bit q
      have hi12 : i < 12 := by
        rcases Nat.lt_or_ge i 12 with w | w
        · exact w
        · rw [tb_big hand (by omega)] at hi; cases hi
      rw [hno i hi12] at hi; cases hi
    rw [if_neg (fun q => q c0)] at hx
    rw [e]
    refine zT.it rfl ?_
    refine zT.bnE (t_spent (by omega) hB) ?_
    refine zT.bnT (t_possible (sp := spk (loo a.2.1.2.2.2.2.1 a.2.2.2.1.2.1) a.2.1.1) (kind := a.2.2.2.1.2.2.2.1 r) hn hB.1 hF (by omega)) ?_
    rintro ⟨_, u⟩ ⟨rfl, hE, hK⟩
    dsimp only at *
    have hpl : posA a a.2.2.2.1.1 (a.2.2.2.1.2.2.2.1 r) < 2 ^ a.2.1.1 := pos_lt hF
    rw [show pos (dD a.2.1 a.2.2.1 a.2.2.2.1) a.2.1.1 a.2.1.2.2.2.2.2 a.2.2.2.1.1 (spk (loo a.2.1.2.2.2.2.1 a.2.2.2.1.2.1) a.2.1.1) (a.2.2.2.1.2.2.2.1 r) = posA a a.2.2.2.1.1 (a.2.2.2.1.2.2.2.1 r) from rfl, nI_and]
    refine zT.bnE (x_lowest (by omega) (Nat.lt_of_le_of_lt Nat.and_le_left (by omega))) ?_
    have hB2 := hB.smb hE hK
    have hO2 := hO.smb hA hE
    refine zT.jnQ (fun y => zE pmb s y.2 ∧ XK y.2 a.2.1.1 (aD a) a.2.1.2.2.2.2.2 st ∧ y.1 = (if fo (lef a r &&& posA a a.2.2.2.1.1 (a.2.2.2.1.2.2.2.1 r)).testBit ≠ -1 then fo (lef a r &&& posA a a.2.2.2.1.1 (a.2.2.2.1.2.2.2.1 r)).testBit else fo (fun b => (posA a a.2.2.2.1.1 (a.2.2.2.1.2.2.2.1 r)).testBit b && hlp a (lef a r) (a.2.2.2.1.2.2.2.1 r) (20 * a.2.2.2.1.2.2.2.1 r + b)))) ?_ ?_
    · rintro ⟨y, v⟩ ⟨hE2, hK2, hy⟩
      dsimp only at *
      have hB3 := hB.smb hE2 hK2
      have hO3 := hO.smb hA hE2
      have mk : ∀ b, b < 12 → b < a.2.1.1 → y = nI b → x = (40 + y, aact a (20 * a.2.2.2.1.2.2.2.1 r + y.toNatClampNeg)) → zT (bn (f_X_make n ((nI (a.2.2.2.1.2.2.2.1 r) * (20 : Int32)) + y) v) (fun p16 => bn (f_X_note (nI r) (2 : Int32) y p16.2) (fun p17 => some (true, p17)))) (fun q => q.1 = decide (0 < x.1) ∧ zE pxu s q.2 ∧ XX q.2 (T + 2) (aLog x.2 (100 * nI r + x.1))) := by
        rintro b hb hbn rfl rfl
        rw [show (20 : Int32) = nI 20 from rfl, nI_mulL, nI_add]
        refine zT.bnT (x_make hn hB3 (k := a.2.2.2.1.2.2.2.1 r * 20 + b) (by omega) (by omega)) ?_
        rintro ⟨_, w⟩ ⟨_, hE3, hX3⟩
        have hX4 : XX w T (aact a (20 * a.2.2.2.1.2.2.2.1 r + b)) := by
          rw [Nat.mul_comm 20]
          exact XX.put2 hA hst hO3 hE3 (okA_act hA (by omega) (by omega)) hX3
        refine nte (nI b) 2 2 true (by omega) rfl hX4 (by omega) ((hE2.mono (fun o j e => by simp [pxu, pmb] at *; omega)).trans (hE3.mono (fun o j e => by simp [pxu, pxk] at *; omega))) (by rw [nI_clamp (by omega)]) b (by omega) rfl ?_ ?_
        · show (40 : Int32) + nI b = _
          rw [show (40 : Int32) = nI 40 from rfl, nI_add]
        · symm
          rw [decide_eq_true_eq]
          show (0 : Int32) < 40 + nI b
          rw [show (40 : Int32) = nI 40 from rfl, nI_add]
          exact nI_lt (a := 0) (by omega) (by omega)
      by_cases c1 : fo (lef a r &&& posA a a.2.2.2.1.1 (a.2.2.2.1.2.2.2.1 r)).testBit = -1
      · rw [if_neg (fun q => q c1)] at hx hy
        by_cases c2 : fo (fun b => (posA a a.2.2.2.1.1 (a.2.2.2.1.2.2.2.1 r)).testBit b && hlp a (lef a r) (a.2.2.2.1.2.2.2.1 r) (20 * a.2.2.2.1.2.2.2.1 r + b)) = -1
        · rw [if_neg (fun q => q c2)] at hx
          rw [c2] at hy
          refine zT.it hy ?_
          have hnow : gl v 1 8 = lN (en a.2.2.2.1.1) := hB3.2.2.2.1
          rw [hnow, on_e hB.S ht]
          refine zT.bnT (x_leading (kind := 3) hn hA hB3 hO3 hr (hF.1 _ ht) (by omega)) ?_
          rintro ⟨z, w⟩ ⟨hz, hE3, hK3⟩
          dsimp only at *
          have hz : z = fo (fun b => (a.2.2.2.1.1 (a.2.2.2.1.2.2.2.1 r)).testBit b && hlp a (lef a r) (a.2.2.2.1.2.2.2.1 r) (60 + b)) := hz
          have hB4 := hB3.smb hE3 hK3
          have hO4 := hO3.smb hA hE3
          have hEs : zE pxu s w := (hE2.trans hE3).mono (fun o j e => by simp [pxu, pmb] at *; omega)
          by_cases c3 : fo (fun b => (a.2.2.2.1.1 (a.2.2.2.1.2.2.2.1 r)).testBit b && hlp a (lef a r) (a.2.2.2.1.2.2.2.1 r) (60 + b)) = -1
          · rw [if_neg (fun q => q c3)] at hx
            subst hx
            refine zT.it (hz.trans c3) ?_
            exact nte (0 : Int32) 0 0 false (by omega) rfl ⟨hA, ⟨st, hst, hB4⟩, hO4⟩ (by omega) hEs rfl 0 (by omega) rfl rfl rfl
          · rw [if_pos c3] at hx
            obtain ⟨b, hb, eb, hp⟩ := fo_m1 (fun q => c3 (fo_lt.mp q))
            rw [Bool.and_eq_true] at hp
            have hbn : b < a.2.1.1 := by
              rcases Nat.lt_or_ge b a.2.1.1 with q | q
              · exact q
              · rw [tb_big (hF.1 _ ht) q] at hp; cases hp.1
            rw [eb] at hz
            refine zT.ie (by rw [hz]; exact nI_not_m1 (by omega)) ?_
            rw [hz, show (60 : Int32) = nI 60 from rfl, nI_add]
            refine zT.bnT (x_make hn hB4 (k := 60 + b) (by omega) (by omega)) ?_
            rintro ⟨_, w2⟩ ⟨_, hE5, hX5⟩
            rw [eb, nI_clamp (by omega)] at hx
            subst hx
            refine nte (nI b) 3 3 true (by omega) rfl (XX.put2 hA hst hO4 hE5 (okA_act hA (by omega) (by omega)) hX5) (by omega) (hEs.trans (hE5.mono (fun o j e => by simp [pxu, pxk] at *; omega))) rfl b (by omega) rfl ?_ ?_
            · show (60 : Int32) + nI b = _
              rw [show (60 : Int32) = nI 60 from rfl, nI_add]
            · symm
              rw [decide_eq_true_eq]
              show (0 : Int32) < 60 + nI b
              rw [show (60 : Int32) = nI 60 from rfl, nI_add]
              exact nI_lt (a := 0) (by omega) (by omega)
        · rw [if_pos c2] at hx
          obtain ⟨b, hb, eb, hp⟩ := fo_m1 (fun q => c2 (fo_lt.mp q))
          rw [Bool.and_eq_true] at hp
          have hbn : b < a.2.1.1 := by
            rcases Nat.lt_or_ge b a.2.1.1 with q | q
            · exact q
            · rw [tb_big hpl q] at hp; cases hp.1
          refine zT.ie (by rw [hy, eb]; exact nI_not_m1 (by omega)) (mk b hb hbn (by rw [hy, eb]) ?_)
          rw [← hx, hy]
      · rw [if_pos c1] at hx hy
        obtain ⟨b, hb, eb, hp⟩ := fo_m1 (fun q => c1 (fo_lt.mp q))
        rw [Nat.testBit_and, Bool.and_eq_true] at hp
        have hbn : b < a.2.1.1 := by
          rcases Nat.lt_or_ge b a.2.1.1 with q | q
          · exact q
          · rw [tb_big hpl q] at hp; cases hp.2
        refine zT.ie (by rw [hy, eb]; exact nI_not_m1 (by omega)) (mk b hb hbn (by rw [hy, eb]) ?_)
        rw [← hx, hy]
    · intro j18 hj18
      by_cases c1 : fo (lef a r &&& posA a a.2.2.2.1.1 (a.2.2.2.1.2.2.2.1 r)).testBit = -1
      · rw [if_neg (fun q => q c1)] at hj18
        refine zT.it c1 ?_
        refine zT.bnT (x_leading (kind := a.2.2.2.1.2.2.2.1 r) hn hA hB2 hO2 hr hpl (by omega)) ?_
        rintro ⟨z, w⟩ ⟨hz, hE3, hK3⟩
        exact hj18 _ ⟨hE.trans hE3, hK3, hz⟩
      · rw [if_pos c1] at hj18
        refine zT.ie c1 (hj18 _ ⟨hE, hK, ?_⟩)
        dsimp only
  · have c0 : lef a r &&& a.2.2.2.1.1 (a.2.2.2.1.2.2.2.1 r) ≠ 0 := fun q => by rw [q, Nat.zero_testBit] at h1; cases h1
    rw [if_pos c0] at hx
    subst hx
    have hlow := low_fo _ (show lef a r &&& a.2.2.2.1.1 (a.2.2.2.1.2.2.2.1 r) < 4096 by omega) c0
    have hll := low_le _ (show lef a r &&& a.2.2.2.1.1 (a.2.2.2.1.2.2.2.1 r) < 4096 by omega)
    rw [e, nI_eq (by omega) (by omega)] at hlow
    rw [e]
    refine zT.ie (nI_not_m1 (by omega)) ?_
    have hbn : b < a.2.1.1 := by
      rcases Nat.lt_or_ge b a.2.1.1 with q | q
      · exact q
      · rw [tb_big hand q] at h1; cases h1
    refine zT.bnT (x_finish hn h (by omega) hr hbn) ?_
    rintro u ⟨hE, hX⟩
    refine nte (nI b) 1 1 true (by omega) rfl hX (by omega) (hE.mono (fun o j e => by simp [pxu, pxf] at *; omega)) (by rw [hlow]) b (by omega) rfl (by rw [hlow]) ?_
    symm
    rw [decide_eq_true_eq]
    exact nI_lt (a := 0) (by omega) (by omega)
end Z42
