-- soonest, till
section Z77
noncomputable def sSoon (x : Int32) (a : ZA) : Int32 × ZA := if inb x a.2.1.1 = true then (match sFrom a with
  | none => (-3, a)
  | some (Q, _) => sWay Q (qfw Q (2 ^ x.toNatClampNeg)) a) else (-1, a)
theorem qfw_le (Q : ZQ) (m : Nat) : qfw Q m ≤ Q.1 := by
  unfold qfw
  by_cases q : ∃ i, i < Q.1 ∧ decide (ndf m (anyw (dcd (Q.2.1 i))) = 0) = true
  · obtain ⟨i, h1, h2⟩ := q
    obtain ⟨_, r2, _⟩ := ff_sp (p := fun i => decide (ndf m (anyw (dcd (Q.2.1 i))) = 0)) h1 h2
    exact Nat.le_trans r2 (Nat.le_of_lt h1)
  · have : ∀ i, i < Q.1 → decide (ndf m (anyw (dcd (Q.2.1 i))) = 0) = false := fun i hi => by
      cases w : decide (ndf m (anyw (dcd (Q.2.1 i))) = 0)
      · rfl
      · exact absurd ⟨i, hi, w⟩ q
    rw [ff_no this]
    exact Nat.le_refl _
theorem ndf_2 (b m : Nat) : ndf (2 ^ b) m = 0 ↔ m.testBit b = true := by
  constructor
  · intro h
    have q : (ndf (2 ^ b) m).testBit b = false := by rw [h, Nat.zero_testBit]
    rw [ndf_t, tb2, decide_eq_true rfl, Bool.true_and] at q
    cases w : m.testBit b
    · rw [w] at q; cases q
    · rfl
  · intro h
    apply Nat.eq_of_testBit_eq
    intro i
    rw [ndf_t, Nat.zero_testBit, tb2]
    by_cases e : b = i
    · subst e; rw [h]; simp
    · rw [decide_eq_false e, Bool.false_and]
theorem x_soonest {n T : Nat} {s : ZSt} {a : ZA} (x : Int32) (hn : 20000 < n) (h : XX s T a) (hS : XS s) : zT (f_X_soonest n x s) (xPS (sSoon x a).1 T (sSoon x a).2 s) := by
  have hnb := h.1.2.2.2.1
  obtain ⟨hA, ⟨st, hst, hB0⟩, hO⟩ := id h
  unfold f_X_soonest sSoon
  rw [inb_has hB0.1.1.1 hnb]
  refine zT.ite (fun c => ?_) (fun c => ?_)
  · rw [if_pos c]
    obtain ⟨b, hb, rfl⟩ := (inb_iff (by omega)).mp c
    rw [nI_clamp (by omega), x_now h]
    refine zT.bnT (x_from hn h hS (now_ok h.1) (now_lt h.1)) ?_
    rintro ⟨r, s2⟩ ⟨hE2, hX2, hS2, hB⟩
    dsimp only at *
    have hs : sch (sucA a wal) (en a.2.2.2.1.1) = sFrom a := rfl
    rw [hs] at hB
    cases hq : sFrom a with
    | none =>
      rw [hq] at hB
      have hB : r = false := hB
      rw [hB]
      exact zT.ie (by decide) (zT.ret ⟨rfl, hE2, hX2, hS2⟩)
    | some y =>
      obtain ⟨Q, ed⟩ := y
      obtain ⟨hOK, h0⟩ := sFrom_OK hq
      rw [hq] at hB
      obtain ⟨hr, ⟨cl, sl', hX⟩, _⟩ := hB
      have hr : r = true := hr
      have hb2 : 2 ^ b < 2 ^ 12 := Nat.pow_lt_pow_right (by decide) (by omega)
      rw [hr, shI_n (by omega)]
      refine zT.it rfl (zT.bnE (hX.first hn (by omega)) (zT.bnT (x_tellWay hn hX2 hX hOK (qfw_le Q _) rfl) ?_))
      rintro ⟨_, v⟩ ⟨rfl, hE3, hX3, hS3⟩
      exact zT.ret ⟨rfl, hE2.trans hE3, hX3, hS3⟩
  · rw [if_neg c]
    exact zT.ret ⟨rfl, zE.refl _ _, h, hS⟩
theorem m_soonest {n : Nat} {s : ZSt} {a : ZA} (x : Int32) (hn : 20000 < n) (h : MA s a) : zT (f_M_soonest n x s) (mP (sSoon x a).1 (sSoon x a).2 s) := by
  have hnb := h.1.2.2.2.1
  unfold f_M_soonest sSoon
  refine zT.ln (fun s1 hs1 => ?_)
  obtain ⟨hz, hE0, h00⟩ := mz h hs1
  clear hs1
  rw [inb_isBook hz.2.1.1.1 hnb]
  refine zT.ite (fun c => ?_) (fun c => ?_)
  · rw [if_pos c]
    obtain ⟨b, hb, rfl⟩ := (inb_iff (by omega)).mp c
    rw [nI_clamp (by omega)]
    refine zT.bnE (m_stateNow hz.2.1.2.2.2.2.1 ((okS_f h.1).S h.1.2.2.2.1)) ?_
    refine zT.bnT (m_explores hn hz (now_ok h.1) (now_lt h.1)) ?_
    rintro ⟨r, s2⟩ ⟨hE2, hM2, hB⟩
    dsimp only at *
    have hB : meB a (r, s2) (sFrom a) := hB
    cases hq : sFrom a with
    | none =>
      rw [hq] at hB
      have hB : r = false := hB
      rw [hB]
      exact zT.ie (by decide) (zT.ret ⟨rfl, hE0.trans hE2, hM2⟩)
    | some y =>
      obtain ⟨Q, ed⟩ := y
      obtain ⟨hOK, h0⟩ := sFrom_OK hq
      rw [hq] at hB
      obtain ⟨hr, ⟨cl, sl', hM⟩, _⟩ := hB
      have hr : r = true := hr
      rw [hr]
      have h5 := hOK.2.1
      refine zT.it rfl ?_
      refine zT.cnt 5000 (fun k x => k ≤ Q.1 ∧ x = nI k ∧ ∀ i, i < k → decide (ndf (2 ^ b) (anyw (dcd (Q.2.1 i))) = 0) = false) (by omega) ⟨Nat.zero_le _, rfl, fun i hi => absurd hi (Nat.not_lt_zero _)⟩ ?_
      rintro j k _ hk ⟨hkQ, rfl, f1⟩ hj
      rw [hM.1]
      refine zT.ite (fun c1 => ?_) (fun c1 => ?_)
      · rw [nI_leI (by omega) (by omega)] at c1
        have e : k = Q.1 := by omega
        subst e
        have : qfw Q (2 ^ b) = Q.1 := ff_no f1
        refine zT.ret ⟨?_, hE0.trans hE2, ?_⟩
        · show (-2 : Int32) = (sWay Q (qfw Q (2 ^ b)) a).1
          unfold sWay
          rw [this, if_neg (Nat.lt_irrefl _)]
        · show MA s2 (sWay Q (qfw Q (2 ^ b)) a).2
          unfold sWay
          rw [this, if_neg (Nat.lt_irrefl _)]
          exact hM2
      · rw [nI_leI (by omega) (by omega)] at c1
        refine zT.gu (inb_n (by omega) (by decide)) ?_
        obtain ⟨g1, g2, _⟩ := hM.2.1 k (by omega)
        have hal := anyw_lt (Q.2.1 k)
        rw [al_n _ _ (by omega), g1, ev_c g2, has_n (by omega) (by omega)]
        refine zT.ite (fun c2 => ?_) (fun c2 => ?_)
        · have : qfw Q (2 ^ b) = k := ff_at (show k < Q.1 by omega) (decide_eq_true ((ndf_2 _ _).mpr c2)) f1
          refine zT.bnT (m_tellsTo hn hM2 hM hOK (show k < Q.1 by omega)) ?_
          rintro ⟨_, v⟩ ⟨rfl, hE3, hM3⟩
          show zT _ (mP (sWay Q (qfw Q (2 ^ b)) a).1 (sWay Q (qfw Q (2 ^ b)) a).2 s)
          rw [this]
          exact zT.ret ⟨rfl, hE0.trans (hE2.trans hE3), hM3⟩
        · rw [nI_1]
          refine zT.ltS (hj (by omega) _ ⟨by omega, rfl, fun i hi => ?_⟩)
          by_cases e : i = k
          · rw [e]; exact decide_eq_false (fun w => c2 ((ndf_2 _ _).mp w))
          · exact f1 i (by omega)
  · rw [if_neg c]
    exact zT.ret ⟨rfl, hE0, hz⟩
-- till
def tl3 (x y z : Nat) : Nat → Nat := ups (ups (ups (fun _ => 0) 0 x) 1 y) 2 z
noncomputable def sTill (x y z : Int32) (a : ZA) : Int32 × ZA :=
  if inb x (2 ^ a.2.1.1) = true ∧ inb y (2 ^ a.2.1.1) = true ∧ inb z (2 ^ a.2.1.1) = true ∧ (x.toNatClampNeg &&& y.toNatClampNeg) = 0 ∧ ((x.toNatClampNeg ||| y.toNatClampNeg) &&& z.toNatClampNeg) = 0 then (match sFrom a with
  | none => (-3, a)
  | some (Q, _) => sWay Q (qat Q (en (tl3 x.toNatClampNeg y.toNatClampNeg z.toNatClampNeg))) a) else (-1, a)
theorem tl3_S {x y z nb : Nat} (hnb : nb ≤ 12) (hx : x < 2 ^ nb) (hy : y < 2 ^ nb) (hz : z < 2 ^ nb) : okS (tl3 x y z) := by
  have h12 := pw_12 hnb
  exact okS_up (okS_up (okS_up okS_0 0 (by omega)) 1 (by omega)) 2 (by omega)
theorem qat_le (Q : ZQ) (c : Nat) : qat Q c ≤ Q.1 := by
  rcases qat_cases Q c with ⟨h, _⟩ | ⟨h, _⟩ <;> omega
theorem or0 {x y : Nat} : x ||| y = 0 ↔ x = 0 ∧ y = 0 := by
  constructor
  · intro h
    have e : ∀ i, (x ||| y).testBit i = false := fun i => by rw [h, Nat.zero_testBit]
    refine ⟨Nat.eq_of_testBit_eq (fun i => ?_), Nat.eq_of_testBit_eq (fun i => ?_)⟩
    · have := e i
      rw [Nat.testBit_or] at this
      rw [Nat.zero_testBit]
      revert this
      cases x.testBit i <;> simp
    · have := e i
      rw [Nat.testBit_or] at this
      rw [Nat.zero_testBit]
      revert this
      cases y.testBit i <;> simp
  · rintro ⟨rfl, rfl⟩; rfl
theorem and_dis {x y z : Nat} : ((x &&& y) ||| (x &&& z)) ||| (y &&& z) = 0 ↔ (x &&& y) = 0 ∧ ((x ||| y) &&& z) = 0 := by
  rw [or0, or0, Nat.and_or_distrib_right, or0, and_assoc]
theorem x_till {n T : Nat} {s : ZSt} {a : ZA} (x y z : Int32) (hn : 20000 < n) (h : XX s T a) (hS : XS s) : zT (f_X_till n x y z s) (xPS (sTill x y z a).1 T (sTill x y z a).2 s) := by
  have hnb := h.1.2.2.2.1
  have h12 := pw_12 hnb
  obtain ⟨hA, ⟨st, hst, hB0⟩, hO⟩ := id h
  have h3 := hB0.1.1.1
  unfold f_X_till sTill
  rw [inb_beyond h3 hnb, inb_beyond h3 hnb, inb_beyond h3 hnb]
  refine zT.ite (fun c => ?_) (fun c => ?_)
  · rw [if_neg (fun w => by rw [w.1] at c; cases c)]
    exact zT.ret ⟨rfl, zE.refl _ _, h, hS⟩
  refine zT.ite (fun c2 => ?_) (fun c2 => ?_)
  · rw [if_neg (fun w => by rw [w.2.1] at c2; cases c2)]
    exact zT.ret ⟨rfl, zE.refl _ _, h, hS⟩
  refine zT.ite (fun c3 => ?_) (fun c3 => ?_)
  · rw [if_neg (fun w => by rw [w.2.2.1] at c3; cases c3)]
    exact zT.ret ⟨rfl, zE.refl _ _, h, hS⟩
  have d1 : inb x (2 ^ a.2.1.1) = true := by cases q : inb x (2 ^ a.2.1.1); rw [q] at c; exact absurd rfl c; rfl
  have d2 : inb y (2 ^ a.2.1.1) = true := by cases q : inb y (2 ^ a.2.1.1); rw [q] at c2; exact absurd rfl c2; rfl
  have d3 : inb z (2 ^ a.2.1.1) = true := by cases q : inb z (2 ^ a.2.1.1); rw [q] at c3; exact absurd rfl c3; rfl
  clear c c2 c3
  obtain ⟨X, hX, rfl⟩ := (inb_iff (by omega)).mp d1
  obtain ⟨Y, hY, rfl⟩ := (inb_iff (by omega)).mp d2
  obtain ⟨Z, hZ, rfl⟩ := (inb_iff (by omega)).mp d3
  rw [nI_clamp (by omega), nI_clamp (by omega), nI_clamp (by omega), nI_and, nI_and, nI_and, nI_or, nI_or]
  have b1 : ((X &&& Y) ||| (X &&& Z)) ||| (Y &&& Z) < 2 ^ a.2.1.1 := or_lt (or_lt (Nat.lt_of_le_of_lt Nat.and_le_left hX) (Nat.lt_of_le_of_lt Nat.and_le_left hX)) (Nat.lt_of_le_of_lt Nat.and_le_left hY)
  refine zT.ite (fun c => ?_) (fun c => ?_)
  · have c := and_dis.mp ((nI_eq (b := 0) (by omega) (by decide)).mp c)
    rw [if_pos ⟨d1, d2, d3, c.1, c.2⟩, x_now h]
    refine zT.bnT (x_from hn h hS (now_ok h.1) (now_lt h.1)) ?_
    rintro ⟨r, s2⟩ ⟨hE2, hX2, hS2, hB⟩
    dsimp only at *
    have hs : sch (sucA a wal) (en a.2.2.2.1.1) = sFrom a := rfl
    rw [hs] at hB
    cases hq : sFrom a with
    | none =>
      rw [hq] at hB
      have hB : r = false := hB
      rw [hB]
      exact zT.ie (by decide) (zT.ret ⟨rfl, hE2, hX2, hS2⟩)
    | some y =>
      obtain ⟨Q, ed⟩ := y
      obtain ⟨hOK, h0⟩ := sFrom_OK hq
      rw [hq] at hB
      obtain ⟨hr, ⟨cl, sl', hXH⟩, _⟩ := hB
      have hr : r = true := hr
      have hw : f_X_with (f_X_with (f_X_with (0 : Int64) (0 : Int32) (nI X)) (1 : Int32) (nI Y)) (2 : Int32) (nI Z) = lN (en (tl3 X Y Z)) := by
        have w1 := with_e okS_0 (t := 0) (by decide) (m := X) (by omega)
        rw [en_0] at w1
        have w2 := with_e (okS_up okS_0 0 (m := X) (by omega)) (t := 1) (by decide) (m := Y) (by omega)
        have w3 := with_e (okS_up (okS_up okS_0 0 (m := X) (by omega)) 1 (m := Y) (by omega)) (t := 2) (by decide) (m := Z) (by omega)
        rw [show (0 : Int64) = lN 0 from rfl, show (0 : Int32) = nI 0 from rfl, show (1 : Int32) = nI 1 from rfl, show (2 : Int32) = nI 2 from rfl, w1, w2, w3]
        rfl
      rw [hr, hw]
      refine zT.it rfl (zT.bnE (hXH.index hn (en_lt (tl3_S hnb hX hY hZ))) (zT.bnT (x_tellWay hn hX2 hXH hOK (qat_le Q _) rfl) ?_))
      rintro ⟨_, v⟩ ⟨rfl, hE3, hX3, hS3⟩
      exact zT.ret ⟨rfl, hE2.trans hE3, hX3, hS3⟩
  · rw [if_neg (fun w => c (by rw [and_dis.mpr w.2.2.2]; rfl))]
    exact zT.ret ⟨rfl, zE.refl _ _, h, hS⟩
theorem m_till {n : Nat} {s : ZSt} {a : ZA} (x y z : Int32) (hn : 20000 < n) (h : MA s a) : zT (f_M_till n x y z s) (mP (sTill x y z a).1 (sTill x y z a).2 s) := by
  have hnb := h.1.2.2.2.1
  have h12 := pw_12 hnb
  unfold f_M_till sTill
  refine zT.ln (fun s1 hs1 => ?_)
  obtain ⟨hz, hE0, h00⟩ := mz h hs1
  clear hs1
  have h3 := hz.2.1.1.1
  rw [inb_areBooks h3 hnb, inb_areBooks h3 hnb, inb_areBooks h3 hnb]
  refine zT.ite (fun d1 => ?_) (fun c => ?_)
  rotate_left
  · rw [if_neg (fun w => c w.1)]
    exact zT.ret ⟨rfl, hE0, hz⟩
  refine zT.ite (fun d2 => ?_) (fun c => ?_)
  rotate_left
  · rw [if_neg (fun w => c w.2.1)]
    exact zT.ret ⟨rfl, hE0, hz⟩
  refine zT.ite (fun d3 => ?_) (fun c => ?_)
  rotate_left
  · rw [if_neg (fun w => c w.2.2.1)]
    exact zT.ret ⟨rfl, hE0, hz⟩
  obtain ⟨X, hX, rfl⟩ := (inb_iff (by omega)).mp d1
  obtain ⟨Y, hY, rfl⟩ := (inb_iff (by omega)).mp d2
  obtain ⟨Z, hZ, rfl⟩ := (inb_iff (by omega)).mp d3
  rw [nI_clamp (by omega), nI_clamp (by omega), nI_clamp (by omega), nI_and, nI_or, nI_and]
  have b1 : X &&& Y < 2 ^ a.2.1.1 := Nat.lt_of_le_of_lt Nat.and_le_left hX
  have b2 : (X ||| Y) &&& Z < 2 ^ a.2.1.1 := Nat.lt_of_le_of_lt Nat.and_le_right hZ
  refine zT.ite (fun c4 => ?_) (fun c => ?_)
  rotate_left
  · rw [if_neg (fun w => c (by rw [w.2.2.2.1]; rfl))]
    exact zT.ret ⟨rfl, hE0, hz⟩
  refine zT.ite (fun c5 => ?_) (fun c => ?_)
  rotate_left
  · rw [if_neg (fun w => c (by rw [w.2.2.2.2]; rfl))]
    exact zT.ret ⟨rfl, hE0, hz⟩
  have c4 := (nI_eq (b := 0) (by omega) (by decide)).mp c4
  have c5 := (nI_eq (b := 0) (by omega) (by decide)).mp c5
  rw [if_pos ⟨d1, d2, d3, c4, c5⟩]
  refine zT.bnE (m_stateNow hz.2.1.2.2.2.2.1 ((okS_f h.1).S h.1.2.2.2.1)) ?_
  refine zT.bnT (m_explores hn hz (now_ok h.1) (now_lt h.1)) ?_
  rintro ⟨r, s2⟩ ⟨hE2, hM2, hB⟩
  dsimp only at *
  have hB : meB a (r, s2) (sFrom a) := hB
  cases hq : sFrom a with
  | none =>
    rw [hq] at hB
    have hB : r = false := hB
    rw [hB]
    exact zT.ie (by decide) (zT.ret ⟨rfl, hE0.trans hE2, hM2⟩)
  | some y =>
    obtain ⟨Q, ed⟩ := y
    obtain ⟨hOK, h0⟩ := sFrom_OK hq
    rw [hq] at hB
    obtain ⟨hr, ⟨cl, sl', hM⟩, _⟩ := hB
    have hr : r = true := hr
    rw [hr]
    have h5 := hOK.2.1
    have hcode : ((nI X).toInt64 ||| (shL (nI Y).toInt64 (12 : Int32))) ||| (shL (nI Z).toInt64 (24 : Int32)) = lN (en (tl3 X Y Z)) := by
      have b : Y <<< 12 < 2 ^ 64 := by rw [Nat.shiftLeft_eq]; omega
      have c : Z <<< 24 < 2 ^ 64 := by rw [Nat.shiftLeft_eq]; omega
      rw [nI_l (by omega), nI_l (by omega), nI_l (by omega), show (12 : Int32) = nI 12 from rfl, show (24 : Int32) = nI 24 from rfl, shL_n _ (by decide), shL_n _ (by decide), wb_or (by omega) b, wb_or (Nat.or_lt_two_pow (by omega) b) c]
      rfl
    rw [hcode]
    refine zT.it rfl (zT.bnT (hM.idx hn (en_lt (tl3_S hnb hX hY hZ))) ?_)
    rintro _ ⟨p, rfl, hp, hv⟩
    refine zT.gu (inb_n hp (by decide)) ?_
    rw [ai_n _ _ (by omega), hv]
    refine zT.ltS ?_
    rcases Nat.lt_or_ge (qat Q (en (tl3 X Y Z))) Q.1 with w | w
    · rw [if_pos w]
      refine zT.it (nI_pos' (by omega)) (zT.bnT (m_tellsTo hn hM2 hM hOK w) ?_)
      rintro ⟨_, v⟩ ⟨rfl, hE3, hM3⟩
      exact zT.ret ⟨rfl, hE0.trans (hE2.trans hE3), hM3⟩
    · rw [if_neg (show ¬ qat Q (en (tl3 X Y Z)) < Q.1 by omega)]
      refine zT.ie (by decide) (zT.ret ⟨?_, hE0.trans hE2, ?_⟩)
      · show (-2 : Int32) = (sWay Q (qat Q (en (tl3 X Y Z))) a).1
        unfold sWay
        rw [if_neg (by omega)]
      · show MA s2 (sWay Q (qat Q (en (tl3 X Y Z))) a).2
        unfold sWay
        rw [if_neg (by omega)]
        exact hM2
end Z77
