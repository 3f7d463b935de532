-- reach; the reference's telling of ways
section Z76
noncomputable def sFrom (a : ZA) : Option (ZQ × (Nat → List Nat)) := sch (sucA a wal) (en a.2.2.2.1.1)
theorem now_ok {a : ZA} (h : okA a) : okF a.2.1.1 (dcd (en a.2.2.2.1.1)) := okF_dcd (okS_f h) h.2.2.2.1
theorem now_lt {a : ZA} (h : okA a) : en a.2.2.2.1.1 < 2 ^ 36 := en_lt ((okS_f h).S h.2.2.2.1)
theorem sFrom_OK {a : ZA} {Q : ZQ} {ed : Nat → List Nat} (h : sFrom a = some (Q, ed)) : qOK Q ∧ 0 < Q.1 := by
  obtain ⟨h1, h2, _⟩ := sch_some h
  exact ⟨h1, h2⟩
theorem ev_c {c : Nat} (h : c < 2 ^ 36) : f_M_everyOf (lN c) = nI (anyw (dcd c)) := by
  have := ev_e (dcd_S c)
  rw [en_dcd h] at this
  exact this
section
variable {s : ZSt} {Q : ZQ} {cell slot : Nat → Nat} {n : Nat}
theorem m_everFound (hn : 20000 < n) (h : MH s Q cell slot) : f_M_everFound n s = some (nI (qun Q Q.1)) := by
  obtain ⟨h1, h2, h3, h4, h5⟩ := h
  have h50 := h4.2.2
  apply zT.eq
  unfold f_M_everFound
  refine zT.cnt 5000 (fun k x => k ≤ Q.1 ∧ x.1 = nI (qun Q k) ∧ x.2 = nI k) (by omega) ⟨Nat.zero_le _, rfl, rfl⟩ ?_
  rintro j k ⟨_, _⟩ hk ⟨hkQ, rfl, rfl⟩ hj
  dsimp only at *
  rw [h1]
  refine zT.ite (fun c => ?_) (fun c => ?_)
  · rw [nI_leI (by omega) (by omega)] at c
    have e : k = Q.1 := by omega
    rw [e]
    exact zT.ret rfl
  · rw [nI_leI (by omega) (by omega)] at c
    refine zT.gu (inb_n (by omega) (by decide)) ?_
    obtain ⟨g1, g2, _⟩ := h2 k (by omega)
    rw [al_n _ _ (by omega), g1, ev_c g2, nI_or, nI_1]
    exact zT.ltS (zT.ltS (hj (by omega) _ ⟨by omega, by rw [qun_s], rfl⟩))
theorem MH.idx {c : Nat} (hn : 20000 < n) (hc : c < 2 ^ 36) (h : MH s Q cell slot) : zT (f_M_slotOf n (lN c) s) (fun r => ∃ p, r = nI p ∧ p < 16384 ∧ gi s 148 p = if qat Q c < Q.1 then nI (qat Q c) else -1) := by
  refine (m_slotOf hn hc h).mono ?_
  rintro _ ⟨k, rfl, w1, w2⟩
  obtain ⟨h1, h2, h3, h4, h5⟩ := id h
  have h50 := h4.2.2
  have hp : (hM c + k) % 16384 < 16384 := Nat.mod_lt _ (by decide)
  have key1 : cell ((hM c + k) % 16384) = 0 → ∀ i, i < Q.1 → Q.2.1 i ≠ c := fun c0 => h4.miss c0 w1
  generalize hpe : (hM c + k) % 16384 = p at w2 key1 hp ⊢
  clear hpe w1
  obtain ⟨l1, l2⟩ := h4.1 _ hp
  refine ⟨p, rfl, hp, ?_⟩
  rw [h3 _ hp]
  unfold cM
  by_cases c0 : cell p = 0
  · rw [qat_no (key1 c0), if_neg (Nat.lt_irrefl _), if_pos c0]
  · have e := w2 c0
    have hq : qat Q c = cell p - 1 := by
      have := qat_in h5 (i := cell p - 1) (by omega)
      rw [e] at this
      exact this
    rw [hq, if_neg c0, if_pos (by omega)]
end
theorem MH.prm {s t : ZSt} {Q : ZQ} {cell slot : Nat → Nat} (h : MH s Q cell slot) {p : Nat → Nat → Bool} (hE : zE p s t) (hp : ∀ o j, p o j = true → o = 102 ∨ (o = 0 ∧ j = 1) ∨ o = 141) : MH t Q cell slot := h.fr hE (fun o j e => by
  cases q : p o j
  · rfl
  · have := hp o j q
    simp at e
    omega)
noncomputable def sReachA (a : ZA) : Int32 × ZA := match sFrom a with
  | none => (-3, a)
  | some (Q, _) => sReach Q a
theorem m_reach {n : Nat} {s : ZSt} {a : ZA} (hn : 20000 < n) (h : MA s a) : zT (f_M_reach n s) (mP (sReachA a).1 (sReachA a).2 s) := by
  unfold f_M_reach sReachA
  refine zT.ln (fun s1 hs1 => ?_)
  obtain ⟨hz, hE0, h00⟩ := mz h hs1
  clear hs1
  refine zT.bnE (m_stateNow hz.2.1.2.2.2.2.1 ((okS_f h.1).S h.1.2.2.2.1)) ?_
  refine zT.bnT (m_explores hn hz (now_ok h.1) (now_lt h.1)) ?_
  rintro ⟨r, s2⟩ ⟨hE2, hM2, hB⟩
  dsimp only at *
  have hB : meB a (r, s2) (sFrom a) := hB
  cases hq : sFrom a with
  | none =>
    rw [hq] at hB
    have hB : r = false := hB
    rw [hB]
    exact zT.ie (by decide) (zT.ret ⟨rfl, hE0.trans hE2, hM2⟩)
  | some x =>
    obtain ⟨Q, ed⟩ := x
    obtain ⟨hOK, h0⟩ := sFrom_OK hq
    rw [hq] at hB
    obtain ⟨hr, ⟨cl, sl', hM⟩, _⟩ := hB
    have hr : r = true := hr
    rw [hr]
    have h5 := hOK.2.1
    have hE3 : zE prm s2 (si s2 0 1 0) := (zE.refl _ _).wi rfl
    have hM3 := hM.prm hE3 (fun o j e => by simp [prm] at e; omega)
    refine zT.it rfl (zT.ltS (zT.bnE (m_everFound hn hM3) (zT.bnT (m_ent _ hM2.put0 (by simp)) ?_)))
    rintro s4 ⟨hE4, hR4⟩
    have hM4 := hM3.prm hE4 (fun o j e => by simp [prm] at e; omega)
    rw [hM4.1, show nI Q.1 - 1 = nI (Q.1 - 1) from by rw [show Q.1 = (Q.1 - 1) + 1 by omega, nI_pred, Nat.add_sub_cancel]]
    refine zT.gu (inb_n (by omega) (by decide)) ?_
    rw [ai_n _ _ (by omega), (hM4.2.1 (Q.1 - 1) (by omega)).2.2.2.2]
    refine zT.bnT (m_ent _ hR4 (by simp)) ?_
    rintro s5 ⟨hE5, hR5⟩
    have hM5 := hM4.prm hE5 (fun o j e => by simp [prm] at e; omega)
    exact zT.ret ⟨hM5.1, hE0.trans (hE2.trans ((prm_mo hE3).trans ((prm_mo hE4).trans (prm_mo hE5)))), hR5⟩
theorem x_now {s : ZSt} {T : Nat} {a : ZA} (h : XX s T a) : gl s 1 8 = lN (en a.2.2.2.1.1) := by
  obtain ⟨hA, ⟨st, hst, hB⟩, hO⟩ := h
  exact hB.2.2.2.1
theorem x_reach {n T : Nat} {s : ZSt} {a : ZA} (hn : 20000 < n) (h : XX s T a) (hS : XS s) : zT (f_X_reach n s) (xPS (sReachA a).1 T (sReachA a).2 s) := by
  unfold f_X_reach sReachA
  rw [x_now h]
  refine zT.bnT (x_from hn h hS (now_ok h.1) (now_lt h.1)) ?_
  rintro ⟨r, s2⟩ ⟨hE2, hX2, hS2, hB⟩
  dsimp only at *
  have hs : sch (sucA a wal) (en a.2.2.2.1.1) = sFrom a := rfl
  rw [hs] at hB
  cases hq : sFrom a with
  | none =>
    rw [hq] at hB
    have hB : r = false := hB
    rw [hB]
    exact zT.ie (by decide) (zT.ret ⟨rfl, hE2, hX2, hS2⟩)
  | some x =>
    obtain ⟨Q, ed⟩ := x
    obtain ⟨hOK, h0⟩ := sFrom_OK hq
    rw [hq] at hB
    obtain ⟨hr, ⟨cl, sl', hX⟩, _⟩ := hB
    have hr : r = true := hr
    rw [hr]
    refine zT.it rfl (zT.bnT (x_tellReach hn hX2 hX h0) ?_)
    rintro ⟨_, v⟩ ⟨rfl, hE3, hX3, hS3⟩
    exact zT.ret ⟨rfl, hE2.trans hE3, hX3, hS3⟩
-- ways
def p141 : Nat → Nat → Bool := fun o _ => o == 141
theorem MA.s141 {s t : ZSt} {a : ZA} (h : MA s a) (hE : zE p141 s t) : MA t a := h.fr hE (fun o j e => by simp [qM, p141] at *; omega)
theorem p141_mo {s t : ZSt} (h : zE p141 s t) : zE pMo s t := h.mono (fun o j e => by simp [pMo, p141] at *; omega)
theorem take_s {l : List Int32} {c : Nat} (h : c < l.length) : l.take (c + 1) = l.take c ++ [lF l c] := by
  rw [List.take_succ]
  unfold lF
  simp [h]
set_option maxHeartbeats 1000000 in
theorem m_tellsTo {n i : Nat} {s : ZSt} {a : ZA} {Q : ZQ} {cell slot : Nat → Nat} (hn : 20000 < n) (h : MA s a) (hM : MH s Q cell slot) (hQ : qOK Q) (c : i < Q.1) : zT (f_M_tellsTo n (nI i) s) (mP (sWay Q i a).1 (sWay Q i a).2 s) := by
  obtain ⟨hq1, hq2, hq3⟩ := hQ
  have hr : sWay Q i a = (nI (Q.2.2.2.2 i), putR a ((qwy Q (Q.2.2.2.2 i) i).take 10)) := by unfold sWay; rw [if_pos c]
  rw [hr]
  unfold f_M_tellsTo
  have hd := hq3.dle c
  refine zT.gu (inb_n (by omega) (by decide)) ?_
  rw [ai_n _ _ (by omega), (hM.2.1 i c).2.2.2.2]
  refine zT.ln (fun v2 hv2 => ?_)
  generalize hD : Q.2.2.2.2 i = D at *
  refine zT.cnt D (fun k x => x.1 = (if k < D then nI (qbk Q k i) else x.1) ∧ x.2.1 = (if k < D then nI (D - 1 - k) else -1) ∧ zE p141 s x.2.2 ∧ ∀ j, D - k ≤ j → j < D → gi x.2.2 141 j = lF (qwy Q D i) j) (by omega) ⟨?_, ?_, zE.refl _ _, fun j h1 h2 => by omega⟩ ?_
  · by_cases q : 0 < D
    · rw [if_pos q]; rfl
    · rw [if_neg q]
  · dsimp only
    by_cases q : 0 < D
    · rw [if_pos q, hv2, show D = (D - 1) + 1 by omega, show (nI (D - 1 + 1) - 1) = nI (D - 1) from nI_pred _, Nat.add_sub_cancel, Nat.sub_zero]
    · rw [if_neg q, hv2, show D = 0 by omega]; rfl
  rintro j k ⟨u, w, t⟩ hk ⟨hu, hw, hE, hr2⟩ hj
  dsimp only at *
  have hMt := hM.prm hE (fun o j e => by simp [p141] at e; omega)
  by_cases q : k < D
  · rw [if_pos q] at hu hw
    subst hu hw
    obtain ⟨g1, g2, g3⟩ := qbk_sp hq3 hq2 c k (by omega)
    have hx2 := hMt.2.1 _ g1
    have ew := qwy_at Q D i (D - 1 - k) (by omega)
    rw [show D - 1 - (D - 1 - k) = k by omega] at ew
    refine zT.ie (nI_nneg (by omega)) (zT.gu (inb_n (by omega) (by decide)) (zT.gu (inb_n (by omega) (by decide)) ?_))
    rw [ai_n _ _ (by omega), sai_n _ _ _ (by omega), hx2.2.2.2.1]
    refine zT.ltS ?_
    rw [ai_n _ _ (by omega), gi_i, if_neg (by omega), hx2.2.2.1]
    refine zT.ltS (zT.ln (fun v13 hv13 => hj (by omega) _ ⟨?_, ?_, hE.wi rfl, fun j h1 h2 => ?_⟩))
    · dsimp only
      by_cases q2 : k + 1 < D
      · rw [if_pos q2]; exact (g3 (by omega)).1
      · rw [if_neg q2]
    · dsimp only
      by_cases q2 : k + 1 < D
      · rw [if_pos q2, hv13, show D - 1 - k = (D - 1 - (k + 1)) + 1 by omega, nI_m1 (by omega)]
      · rw [if_neg q2, hv13, show D - 1 - k = 0 by omega]; rfl
    · dsimp only
      rw [gi_i]
      by_cases e : j = D - 1 - k
      · rw [if_pos ⟨rfl, e⟩, e, ew]
      · rw [if_neg (fun w => e w.2)]
        exact hr2 j (by omega) h2
  · rw [if_neg q] at hw
    subst hw
    refine zT.it (by decide) (zT.ltS ?_)
    have hMA := h.s141 hE
    have hl := qwy_len Q D i
    refine zT.jo ?_
    refine zT.cnt (min D 10) (fun k x => x.1 = nI k ∧ zE prm t x.2 ∧ MA x.2 (putR a ((qwy Q D i).take k))) (by omega) ⟨rfl, (zE.refl _ _).wi rfl, hMA.put0⟩ ?_
    rintro j10 e ⟨_, y⟩ he ⟨rfl, hE3, hR⟩ hj10
    dsimp only at *
    have hMy := hMt.prm hE3 (fun o j e => by simp [prm] at e; omega)
    have fin : e = min D 10 → zT (some (ai y 144 (nI i), y)) (mP (nI D) (putR a ((qwy Q D i).take 10)) s) := fun ee => by
      refine zT.ret ⟨by rw [ai_n _ _ (by omega), (hMy.2.1 i c).2.2.2.2, hD], (p141_mo hE).trans (prm_mo hE3), ?_⟩
      have e1 : (qwy Q D i).take 10 = (qwy Q D i).take e := by
        rcases Nat.lt_or_ge 10 D with w | w
        · rw [show e = 10 by omega]
        · rw [List.take_of_length_le (by omega), List.take_of_length_le (by omega)]
      rw [e1]
      exact hR
    rw [ai_n y 144 (show i < 2 ^ 31 by omega), (hMy.2.1 i c).2.2.2.2, hD]
    refine zT.ite (fun c1 => ?_) (fun c1 => ?_)
    · rw [nI_leI (by omega) (by omega)] at c1
      have := fin (by omega)
      rw [ai_n y 144 (show i < 2 ^ 31 by omega), (hMy.2.1 i c).2.2.2.2, hD] at this
      exact this
    · rw [nI_leI (by omega) (by omega)] at c1
      refine zT.ite (fun c2 => ?_) (fun c2 => ?_)
      · rw [show (10 : Int32) = nI 10 from rfl, nI_leI (by omega) (by omega)] at c2
        have := fin (by omega)
        rw [ai_n y 144 (show i < 2 ^ 31 by omega), (hMy.2.1 i c).2.2.2.2, hD] at this
        exact this
      · rw [show (10 : Int32) = nI 10 from rfl, nI_leI (by omega) (by omega)] at c2
        refine zT.gu (inb_n (by omega) (by decide)) ?_
        rw [ai_n y 141 (show e < 2 ^ 31 by omega), hE3.i (show prm 141 e = false by simp [prm]), hr2 e (by omega) (by omega)]
        refine zT.bnT (m_ent _ hR (by rw [List.length_take]; omega)) ?_
        rintro z ⟨hE4, hR4⟩
        rw [nI_1]
        refine zT.ltS (hj10 (by omega) _ ⟨rfl, hE3.trans hE4, ?_⟩)
        dsimp only
        rw [take_s (by omega)]
        exact hR4
end Z76
