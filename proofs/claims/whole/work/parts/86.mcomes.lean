-- comes, together, finish in the reference
section Z86
def pO : Nat → Nat → Bool := fun o j => o == 116 || (decide (136 ≤ o) && decide (o < 143)) || (o == 0 && j == 40)
theorem pO_mo {s t : ZSt} (h : zE pO s t) : zE pMo s t := h.mono (fun o j e => by simp [pMo, pO] at *; omega)
theorem MA.sO {s t : ZSt} {a : ZA} (h : MA s a) (hE : zE pO s t) : MA t a := h.fr hE (fun o j e => by simp [qM, pO] at *; omega)
theorem m_one {n t : Nat} {s : ZSt} {a : ZA} {α : Type} {P : α → Prop} {k : ZSt → Option α} {Q : ZQ} {ed : Nat → List Nat} (hn : 20000 < n) (h : MA s a) (ht : t < 3) (hq : sOne a t = some (Q, ed))
    (hk : ∀ u, zE pO s u → MA u a → MT u a t Q → zT (k u) P) : zT (bn (f_M_laysOut n (nI t) s) (fun p3 => bn (f_M_spreads n (0 : Int32) p3) k)) P := by
  refine zT.bnT (m_laysOut (by omega) h ht) ?_
  rintro u ⟨hE, hL⟩
  have hM := h.sly hE
  refine zT.bnT (m_spreads (by omega) hM ht hL) ?_
  rintro v ⟨hE2, Q', ed', hq', hT⟩
  have hq' : sOne a t = some (Q', ed') := hq'
  rw [hq] at hq'
  cases hq'
  have hE3 : zE pO s v := (hE.mono (fun o j w => by simp [pO, ply] at *; omega)).trans (hE2.mono (fun o j w => by simp [pO, pT] at *; omega))
  exact hk v hE3 (h.sO hE3) hT
theorem MT.prw {u v : ZSt} {a : ZA} {t : Nat} {Q : ZQ} (h : MT u a t Q) (hE : zE prm u v) : MT v a t Q := h.fr hE (fun o j e => by
  have e2 : o ≠ 102 ∧ (o = 0 → j ≠ 1) := by simp at e; omega
  simp [prm]; exact e2)
theorem m_everOpen {n t : Nat} {s : ZSt} {a : ZA} {Q : ZQ} (hn : 20000 < n) (ht : t < 3) (hnb : a.2.1.1 ≤ 12) (h : MT s a t Q) : f_M_everOpen n s = some (nI (qun Q Q.1)) := by
  have h12 := pw_12 hnb
  obtain ⟨h1, h2, h3, h4, h5⟩ := h
  have hfew := one_few ht hnb h2.1 h3
  apply zT.eq
  unfold f_M_everOpen
  refine zT.cnt 5000 (fun k x => k ≤ Q.1 ∧ x.1 = nI (qun Q k) ∧ x.2 = nI k) (by omega) ⟨Nat.zero_le _, rfl, rfl⟩ ?_
  rintro j k ⟨_, _⟩ hk ⟨hkQ, rfl, rfl⟩ hj
  dsimp only at *
  rw [h1]
  refine zT.ite (fun c => ?_) (fun c => ?_)
  · rw [nI_leI (by omega) (by omega)] at c
    have e : k = Q.1 := by omega
    rw [e]
    exact zT.ret rfl
  · rw [nI_leI (by omega) (by omega)] at c
    refine zT.gu (inb_n (by omega) (by decide)) ?_
    obtain ⟨o1, o2⟩ := xi_o ht hnb (h3 k (by omega))
    have e : anyw (dcd (Q.2.1 k)) = xi Q t k := by rw [o1]; exact oc_any ht (by omega)
    rw [ai_n _ _ (by omega), (h4 k (by omega)).1, nI_or, nI_1]
    exact zT.ltS (zT.ltS (hj (by omega) _ ⟨by omega, by rw [qun_s, e], rfl⟩))
theorem m_comes {n : Nat} {s : ZSt} {a : ZA} (x : Int32) (hn : 20000 < n) (h : MA s a) : zT (f_M_comes n x s) (mP (sComes x a).1 (sComes x a).2 s) := by
  have hnb := h.1.2.2.2.1
  have h12 := pw_12 hnb
  unfold f_M_comes sComes
  refine zT.ln (fun s1 hs1 => ?_)
  obtain ⟨hz, hE0, h00⟩ := mz h hs1
  clear hs1
  rw [inb_isTab]
  refine zT.ite (fun c => ?_) (fun c => ?_)
  · rw [if_pos c]
    obtain ⟨t, ht, rfl⟩ := (inb_iff (by omega)).mp c
    rw [nI_clamp (by omega)]
    obtain ⟨Q, ed, hq, hOK, h0, hO⟩ := one_some h.1 ht
    have hfew := one_few ht hnb hOK.1 hO
    rw [hq]
    refine m_one hn hz ht hq (fun u hE hM hT => zT.ltS ?_)
    have hE1 : zE prm u (si u 0 1 0) := (zE.refl _ _).wi rfl
    have hT1 := hT.prw hE1
    refine zT.bnE (m_everOpen hn ht hnb hT1) (zT.bnT (m_ent _ hM.put0 (by simp)) ?_)
    rintro v ⟨hE2, hM2⟩
    have hT2 := hT1.prw hE2
    obtain ⟨g1, g2, g3⟩ := hT2.2.2.2.1 (Q.1 - 1) (by omega)
    obtain ⟨o1, o2⟩ := xi_o ht hnb (hO (Q.1 - 1) (by omega))
    rw [hT2.1, show nI Q.1 - 1 = nI (Q.1 - 1) from by rw [show Q.1 = (Q.1 - 1) + 1 by omega, nI_pred, Nat.add_sub_cancel]]
    refine zT.gu (inb_n (by omega) (by decide)) ?_
    rw [ai_n _ _ (by omega), g1]
    refine zT.gu (inb_n (by omega) (by decide)) ?_
    rw [ai_n _ _ (by omega), g2]
    refine zT.bnT (m_ent _ hM2 (by simp)) ?_
    rintro w ⟨hE3, hM3⟩
    have hT3 := hT2.prw hE3
    exact zT.ret ⟨hT3.1, hE0.trans ((pO_mo hE).trans (prm_mo (hE1.trans (hE2.trans hE3)))), hM3⟩
  · rw [if_neg c]
    exact zT.ret ⟨rfl, hE0, hz⟩
set_option maxHeartbeats 1000000 in
theorem m_tellsWay {n t i : Nat} {s : ZSt} {a : ZA} {Q : ZQ} (hn : 20000 < n) (ht : t < 3) (h : MA s a) (hT : MT s a t Q) (c : i < Q.1) : zT (f_M_tellsWay n (nI (xi Q t i)) (nI t) s) (fun u => zE pMo s u ∧ MA u (sWay Q i a).2 ∧ MT u a t Q) := by
  have hnb := h.1.2.2.2.1
  have h12 := pw_12 hnb
  obtain ⟨t1, hQ, t3, t4, t5⟩ := id hT
  have hfew := one_few ht hnb hQ.1 t3
  obtain ⟨hq1, hq2, hq3⟩ := hQ
  have hr : (sWay Q i a).2 = putR a ((qwy Q (Q.2.2.2.2 i) i).take 10) := by unfold sWay; rw [if_pos c]
  rw [hr]
  have hxl : ∀ j, j < Q.1 → xi Q t j < 4096 := fun j hj => Nat.lt_of_lt_of_le (xi_o ht hnb (t3 j hj)).2 h12
  unfold f_M_tellsWay
  have hd := hq3.dle c
  have hx0 := hxl i c
  refine zT.gu (inb_n (by omega) (by decide)) ?_
  rw [ai_n _ _ (by omega), (t4 i c).2.1]
  refine zT.ltS (zT.ln (fun v2 hv2 => ?_))
  generalize hD : Q.2.2.2.2 i = D at *
  refine zT.cnt D (fun k x => x.1 = nI (xi Q t (qbk Q k i)) ∧ x.2.1 = (if k < D then nI (D - 1 - k) else -1) ∧ zE p141 s x.2.2 ∧ ∀ j, D - k ≤ j → j < D → gi x.2.2 141 j = lF (qwy Q D i) j) (by omega) ⟨rfl, ?_, zE.refl _ _, fun j h1 h2 => by omega⟩ ?_
  · dsimp only
    by_cases q : 0 < D
    · rw [if_pos q, hv2, show D = (D - 1) + 1 by omega, show (nI (D - 1 + 1) - 1) = nI (D - 1) from nI_pred _, Nat.add_sub_cancel, Nat.sub_zero]
    · rw [if_neg q, hv2, show D = 0 by omega]; rfl
  rintro j k ⟨_, w, u⟩ hk ⟨rfl, hw, hE, hr2⟩ hj
  dsimp only at *
  have hTt := hT.fr hE (fun o j e => by simp [p141] at *; omega)
  by_cases q : k < D
  · rw [if_pos q] at hw
    subst hw
    obtain ⟨g1, g2, g3⟩ := qbk_sp hq3 hq2 c k (by omega)
    obtain ⟨g4, g5⟩ := g3 (by omega)
    have hx2 := hTt.2.2.2.1 _ g1
    have hxk := hxl _ g1
    have ew := qwy_at Q D i (D - 1 - k) (by omega)
    rw [show D - 1 - (D - 1 - k) = k by omega] at ew
    rcases hx2.2.2 with e | ⟨m, kk, m1, m2, m3, m4, m5⟩
    · rw [g4] at e; exact absurd e (nI_nm1 (by omega))
    have em : m = qbk Q (k + 1) i := (nI_eq (by omega) (by omega)).mp (m3.symm.trans g4)
    subst em
    have hxm := hxl _ m1
    refine zT.ie (nI_nneg (by omega)) (zT.gu (inb_n (by omega) (by decide)) ?_)
    rw [ai_n u 138 (show xi Q t (qbk Q k i) < 2 ^ 31 by omega), m4, show (24 : Int32) = nI 24 from rfl, nI_rem (by omega) (by decide) (by decide), show (24 * xi Q t (qbk Q (k + 1) i) + kk) % 24 = kk by omega]
    refine zT.ltS (zT.ln (fun x17 hx17 => zT.gu (inb_n (by omega) (by decide)) ?_))
    have ea : x17 = Q.2.2.2.1 (qbk Q k i) := by
      rw [hx17, m5]
      unfold acs
      by_cases q2 : kk < 12
      · rw [if_pos q2, if_neg (show ¬ (12 : Int32) ≤ nI kk from nI_ge q2 (by decide)), show (20 : Int32) = nI 20 from rfl, nI_mulL, nI_add]
      · rw [if_neg q2, if_pos (show (12 : Int32) ≤ nI kk from nI_le (a := 12) (by omega) (by omega)), show (60 : Int32) = nI 60 from rfl, show (12 : Int32) = nI 12 from rfl, nI_add, pk_sub (by omega)]
        congr 1
        omega
    rw [sai_n _ _ _ (by omega), ea]
    refine zT.ltS ?_
    rw [ai_n _ 138 (show xi Q t (qbk Q k i) < 2 ^ 31 by omega), gi_i, if_neg (by omega), m4, nI_dv (by omega) (by decide) (by decide), show (24 * xi Q t (qbk Q (k + 1) i) + kk) / 24 = xi Q t (qbk Q (k + 1) i) by omega]
    refine zT.ltS (zT.ln (fun v21 hv21 => hj (by omega) _ ⟨rfl, ?_, hE.wi rfl, fun j h1 h2 => ?_⟩))
    · dsimp only
      by_cases q2 : k + 1 < D
      · rw [if_pos q2, hv21, show D - 1 - k = (D - 1 - (k + 1)) + 1 by omega, nI_m1 (by omega)]
      · rw [if_neg q2, hv21, show D - 1 - k = 0 by omega]; rfl
    · dsimp only
      rw [gi_i]
      by_cases e : j = D - 1 - k
      · rw [if_pos ⟨rfl, e⟩, e, ew]
      · rw [if_neg (fun w => e w.2)]
        exact hr2 j (by omega) h2
  · rw [if_neg q] at hw
    subst hw
    refine zT.it (by decide) (zT.ltS ?_)
    have hMA := h.s141 hE
    have hl := qwy_len Q D i
    refine zT.cnt (min D 10) (fun k x => x.1 = nI k ∧ zE prm u x.2 ∧ MA x.2 (putR a ((qwy Q D i).take k))) (by omega) ⟨rfl, (zE.refl _ _).wi rfl, hMA.put0⟩ ?_
    rintro j10 e ⟨_, y⟩ he ⟨rfl, hE3, hR⟩ hj10
    dsimp only at *
    have fin : e = min D 10 → zT (some y) (fun u => zE pMo s u ∧ MA u (putR a ((qwy Q D i).take 10)) ∧ MT u a t Q) := fun ee => by
      refine zT.ret ⟨(p141_mo hE).trans (prm_mo hE3), ?_, hTt.prw hE3⟩
      have e1 : (qwy Q D i).take 10 = (qwy Q D i).take e := by
        rcases Nat.lt_or_ge 10 D with w | w
        · rw [show e = 10 by omega]
        · rw [List.take_of_length_le (by omega), List.take_of_length_le (by omega)]
      rw [e1]
      exact hR
    refine zT.ite (fun c1 => ?_) (fun c1 => ?_)
    · rw [nI_leI (by omega) (by omega)] at c1
      exact fin (by omega)
    · rw [nI_leI (by omega) (by omega)] at c1
      refine zT.ite (fun c2 => ?_) (fun c2 => ?_)
      · rw [show (10 : Int32) = nI 10 from rfl, nI_leI (by omega) (by omega)] at c2
        exact fin (by omega)
      · rw [show (10 : Int32) = nI 10 from rfl, nI_leI (by omega) (by omega)] at c2
        refine zT.gu (inb_n (by omega) (by decide)) ?_
        rw [ai_n y 141 (show e < 2 ^ 31 by omega), hE3.i (show prm 141 e = false by simp [prm]), hr2 e (by omega) (by omega)]
        refine zT.bnT (m_ent _ hR (by rw [List.length_take]; omega)) ?_
        rintro z ⟨hE4, hR4⟩
        rw [nI_1]
        refine zT.ltS (hj10 (by omega) _ ⟨rfl, hE3.trans hE4, ?_⟩)
        dsimp only
        rw [take_s (by omega)]
        exact hR4
theorem m_together {n : Nat} {s : ZSt} {a : ZA} (x y : Int32) (hn : 20000 < n) (h : MA s a) : zT (f_M_together n x y s) (mP (sTog x y a).1 (sTog x y a).2 s) := by
  have hnb := h.1.2.2.2.1
  have h12 := pw_12 hnb
  unfold f_M_together sTog
  refine zT.ln (fun s1 hs1 => ?_)
  obtain ⟨hz, hE0, h00⟩ := mz h hs1
  clear hs1
  rw [inb_isTab, inb_areBooks hz.2.1.1.1 hnb]
  refine zT.ite (fun c => ?_) (fun c => ?_)
  rotate_left
  · rw [if_neg (fun w => c w.1)]
    exact zT.ret ⟨rfl, hE0, hz⟩
  refine zT.ite (fun c2 => ?_) (fun c2 => ?_)
  rotate_left
  · rw [if_neg (fun w => c2 w.2)]
    exact zT.ret ⟨rfl, hE0, hz⟩
  rw [if_pos ⟨c, c2⟩]
  obtain ⟨t, ht, rfl⟩ := (inb_iff (by omega)).mp c
  obtain ⟨Y, hY, rfl⟩ := (inb_iff (by omega)).mp c2
  rw [nI_clamp (by omega), nI_clamp (by omega)]
  obtain ⟨Q, ed, hq, hOK, h0, hO⟩ := one_some h.1 ht
  have hfew := one_few ht hnb hOK.1 hO
  rw [hq]
  show zT _ (mP (sWay Q (qfw Q Y) a).1 (sWay Q (qfw Q Y) a).2 s)
  refine m_one hn hz ht hq (fun u hE hM hT => ?_)
  refine zT.cnt 5000 (fun k x => k ≤ Q.1 ∧ x = nI k ∧ ∀ i, i < k → decide (ndf Y (anyw (dcd (Q.2.1 i))) = 0) = false) (by omega) ⟨Nat.zero_le _, rfl, fun i hi => absurd hi (Nat.not_lt_zero _)⟩ ?_
  rintro j k _ hk ⟨hkQ, rfl, f1⟩ hj
  rw [hT.1]
  refine zT.ite (fun c1 => ?_) (fun c1 => ?_)
  · rw [nI_leI (by omega) (by omega)] at c1
    have e : k = Q.1 := by omega
    subst e
    have : qfw Q Y = Q.1 := ff_no f1
    refine zT.ret ⟨?_, hE0.trans (pO_mo hE), ?_⟩
    · show (-2 : Int32) = (sWay Q (qfw Q Y) a).1
      unfold sWay
      rw [this, if_neg (Nat.lt_irrefl _)]
    · show MA u (sWay Q (qfw Q Y) a).2
      unfold sWay
      rw [this, if_neg (Nat.lt_irrefl _)]
      exact hM
  · rw [nI_leI (by omega) (by omega)] at c1
    have hkQ : k < Q.1 := by omega
    obtain ⟨o1, o2⟩ := xi_o ht hnb (hO k hkQ)
    have e : anyw (dcd (Q.2.1 k)) = xi Q t k := by rw [o1]; exact oc_any ht (by omega)
    have hle := ndf_le Y (xi Q t k)
    refine zT.gu (inb_n (by omega) (by decide)) ?_
    rw [ai_n _ _ (by omega), (hT.2.2.2.1 k hkQ).1, nI_andn]
    refine zT.ite (fun c2 => ?_) (fun c2 => ?_)
    · have c2 := (nI_eq (b := 0) (by omega) (by decide)).mp c2
      have : qfw Q Y = k := ff_at hkQ (decide_eq_true (by rw [e]; exact c2)) f1
      refine zT.bnT (m_tellsWay hn ht hM hT hkQ) ?_
      rintro v ⟨hE3, hM3, hT3⟩
      obtain ⟨g1, g2, _⟩ := hT3.2.2.2.1 k hkQ
      rw [ai_n _ 139 (show k < 2 ^ 31 by omega), g1]
      refine zT.gu (inb_n (by omega) (by decide)) ?_
      rw [ai_n _ _ (by omega), g2, this]
      refine zT.ret ⟨?_, hE0.trans ((pO_mo hE).trans hE3), hM3⟩
      show _ = (sWay Q k a).1
      unfold sWay
      rw [if_pos hkQ]
    · rw [nI_1]
      refine zT.ltS (hj (by omega) _ ⟨by omega, rfl, fun i hi => ?_⟩)
      by_cases ei : i = k
      · rw [ei, e]; exact decide_eq_false (fun w => c2 (by rw [w]; rfl))
      · exact f1 i (by omega)
theorem m_fin {n : Nat} {s : ZSt} {a : ZA} (x y : Int32) (hn : 20000 < n) (h : MA s a) : zT (f_M_finish n x y s) (mP (sFin x y a).1 (sFin x y a).2 s) := by
  have hnb := h.1.2.2.2.1
  have hnr := h.1.2.2.2.2.2.1
  have h12 := pw_12 hnb
  have h6 : 2 ^ a.2.2.1.1 ≤ 2 ^ 6 := Nat.pow_le_pow_right (by decide) hnr
  generalize hr : sFin x y a = r
  unfold sFin at hr
  unfold f_M_finish
  refine zT.ln (fun s1 hs1 => ?_)
  obtain ⟨hz, hE0, h00⟩ := mz h hs1
  clear hs1
  rw [inb_isTab]
  refine zT.ite (fun c => ?_) (fun c => ?_)
  rotate_left
  · rw [if_neg (fun w => c w.1)] at hr
    subst hr
    exact zT.ret ⟨rfl, hE0, hz⟩
  have h9 := hz.2.1.1.2.2.1
  rw [h9, shI_n (by omega)]
  refine zT.ite (fun c2 => ?_) (fun c2 => ?_)
  rotate_left
  · rw [in_upto y (by omega), ← inb_iff (by omega)] at c2
    rw [if_neg (fun w => c2 w.2)] at hr
    subst hr
    exact zT.ret ⟨rfl, hE0, hz⟩
  rw [in_upto y (by omega), ← inb_iff (by omega)] at c2
  rw [if_pos ⟨c, c2⟩] at hr
  obtain ⟨t, ht, rfl⟩ := (inb_iff (by omega)).mp c
  obtain ⟨Y, hY, rfl⟩ := (inb_iff (by omega)).mp c2
  rw [nI_clamp (by omega), nI_clamp (by omega)] at hr
  obtain ⟨Q, ed, hq, hOK, h0, hO⟩ := one_some h.1 ht
  rw [hq] at hr
  dsimp only at hr
  refine zT.cnt 6 (fun k z => k ≤ a.2.2.1.1 ∧ z.1 = nI (lfu a Y k) ∧ z.2 = nI k) (by omega) ⟨Nat.zero_le _, rfl, rfl⟩ ?_
  rintro j k ⟨_, _⟩ hk ⟨hkn, rfl, rfl⟩ hj
  dsimp only at *
  have hl := lfu_lt h.1 Y k hkn
  refine zT.ite (fun c3 => ?_) (fun c3 => ?_)
  · rw [nI_leI (by omega) (by omega)] at c3
    have e : k = a.2.2.1.1 := by omega
    subst e
    refine m_one hn hz ht hq (fun u hE hM hT => zT.bnE (m_everOpen hn ht hnb hT) ?_)
    have hle := ndf_le (lfu a Y a.2.2.1.1) (qun Q Q.1)
    rw [nI_andn]
    refine zT.ltS (zT.ltS ?_)
    have hE1 : zE prm u (si u 0 1 0) := (zE.refl _ _).wi rfl
    have hEa := hE0.trans ((pO_mo hE).trans (prm_mo hE1))
    by_cases c4 : ndf (lfu a Y a.2.2.1.1) (qun Q Q.1) = 0
    · rw [if_pos c4] at hr
      subst hr
      rw [c4]
      exact zT.jo (zT.it rfl (zT.ltS (zT.ret ⟨rfl, hEa, hM.put0⟩)))
    · rw [if_neg c4] at hr
      subst hr
      have c5 : ¬ nI (ndf (lfu a Y a.2.2.1.1) (qun Q Q.1)) = 0 := fun w => c4 ((nI_eq (b := 0) (by omega) (by decide)).mp w)
      refine zT.jo (zT.ie c5 (zT.bnT (m_ent _ hM.put0 (by simp)) ?_))
      rintro v ⟨hE2, hM2⟩
      refine zT.ltS (zT.ret ⟨?_, hEa.trans (prm_mo hE2), hM2⟩)
      show f_M_flag _ = 0
      rw [if_neg c5]
      rfl
  · rw [nI_leI (by omega) (by omega)] at c3
    refine zT.jnQ (fun z => z = nI (if Y.testBit k = true then lef a k else 0)) ?_ ?_
    · rintro _ rfl
      rw [nI_1]
      refine zT.ltS (zT.ltS (hj (by omega) _ ⟨by omega, ?_, rfl⟩))
      dsimp only
      rw [lfu_s, nI_or]
      cases Y.testBit k
      · rw [if_neg (by decide), if_neg (by decide), Nat.or_zero]
      · rw [if_pos rfl, if_pos rfl]
    · intro j22 hj22
      rw [has_n (by omega) (by omega)]
      refine zT.ite (fun c4 => ?_) (fun c4 => ?_)
      · refine zT.bnE (m_leftOf hz (show k < a.2.2.1.1 by omega)) (hj22 _ ?_)
        rw [if_pos c4]; rfl
      · refine hj22 _ ?_
        rw [if_neg c4]; rfl
end Z86
