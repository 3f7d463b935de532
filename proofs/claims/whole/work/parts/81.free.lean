-- free
section Z81
noncomputable def frI (Q : ZQ) (ed : Nat → List Nat) : Nat := ff (fun i => decide (lim Q ed i ≠ qun Q Q.1)) Q.1
noncomputable def sFree (a : ZA) : Int32 × ZA := match sFrom a with
  | none => (-3, a)
  | some (Q, ed) => if frI Q ed < Q.1 then (0, putR a [nI (Q.2.2.2.2 (frI Q ed)), nI (ndf (qun Q Q.1) (lim Q ed (frI Q ed)))]) else (1, putR a [])
theorem XX.s264 {s t : ZSt} {T : Nat} {a : ZA} (h : XX s T a) (hE : zE p264 s t) : XX t T a := h.fr hE (fun o j e => by simp [qX, p264] at *; omega)
theorem p264_xS {s t : ZSt} (h : zE p264 s t) : zE pXS s t := h.mono (fun o j e => by simp [p264, pXS] at *; omega)
theorem ed_36 {suc : Nat → List (Nat × Nat)} {Q : ZQ} {ed : Nat → List Nat} (h : qcl suc Q.1 Q ed) (hs : ∀ c, (suc c).length ≤ 36) : ∀ j, j < Q.1 → (ed j).length ≤ 36 := fun j hj => by
  rw [(h j hj).1, List.length_map]
  exact hs _
theorem x_free {n T : Nat} {s : ZSt} {a : ZA} (hn : 70000 < n) (h : XX s T a) (hS : XS s) : zT (f_X_free n s) (xPS (sFree a).1 T (sFree a).2 s) := by
  generalize hr : sFree a = r
  unfold sFree at hr
  unfold f_X_free
  rw [x_now h]
  refine zT.bnT (x_from (by omega) h hS (now_ok h.1) (now_lt h.1)) ?_
  rintro ⟨w, s2⟩ ⟨hE2, hX2, hS2, hB⟩
  dsimp only at *
  have hs : sch (sucA a wal) (en a.2.2.2.1.1) = sFrom a := rfl
  rw [hs] at hB
  cases hq : sFrom a with
  | none =>
    rw [hq] at hB hr
    have hB : w = false := hB
    rw [hB]
    subst hr
    exact zT.ie (by decide) (zT.ret ⟨rfl, hE2, hX2, hS2⟩)
  | some x =>
    obtain ⟨Q, ed⟩ := x
    obtain ⟨hOK, h0, _, _, hcl, _⟩ := sch_some hq
    have h5 := hOK.2.1
    have hed := qcl_ed hcl
    rw [hq] at hB hr
    obtain ⟨hw, hXF⟩ := hB
    have hw : w = true := hw
    rw [hw]
    refine zT.it rfl (zT.bnT (x_gather hn hXF hed (ed_36 hcl (fun c => suc_36 a wal c))) ?_)
    rintro s3 ⟨hE3, hc3⟩
    obtain ⟨⟨cl, sl', hXH⟩, _⟩ := hXF.g hE3
    have hX3 := hX2.s264 hE3
    have hS3 : XS s3 := ⟨Q, cl, sl', hXH⟩
    have hul := qun_lt Q Q.1
    refine zT.bnE (hXH.union (by omega)) (zT.ln (fun s5 hs5 => ?_))
    have hE5 : zE prx s3 s5 := by rw [hs5]; exact (zE.refl _ _).wi rfl
    have hXH5 := hXH.prw hE5
    have hc5 : cells s5 264 Q.1 (lim Q ed) := fun j hj => ⟨(hE5.i (by simp [prx])).trans (hc3 j hj).1, (hc3 j hj).2⟩
    have hX5 : XX s5 T (putR a []) := by rw [hs5]; exact hX3.put0
    have hEa : zE pXS s s5 := hE2.trans ((p264_xS hE3).trans (prx_xS hE5))
    dsimp only at hr
    refine zT.cnt 5000 (fun k x => k ≤ Q.1 ∧ x = nI k ∧ ∀ i, i < k → decide (lim Q ed i ≠ qun Q Q.1) = false) (by omega) ⟨Nat.zero_le _, rfl, fun i hi => absurd hi (Nat.not_lt_zero _)⟩ ?_
    rintro j k _ hk ⟨hkQ, rfl, f1⟩ hj
    rw [hXH5.1]
    refine zT.ite (fun c1 => ?_) (fun c1 => ?_)
    · rw [nI_leI (by omega) (by omega)] at c1
      have e : k = Q.1 := by omega
      subst e
      have : frI Q ed = Q.1 := ff_no f1
      rw [if_neg (by omega)] at hr
      subst hr
      exact zT.ret ⟨rfl, hEa, hX5, ⟨Q, cl, sl', hXH5⟩⟩
    · rw [nI_leI (by omega) (by omega)] at c1
      refine zT.gu (inb_n (by omega) (by decide)) ?_
      obtain ⟨d1, d2⟩ := hc5 k (by omega)
      rw [ai_n _ _ (by omega), d1]
      refine zT.ite (fun c2 => ?_) (fun c2 => ?_)
      · have c2 := (nI_eq (by omega) (by omega)).mp c2
        rw [nI_1]
        refine zT.ltS (hj (by omega) _ ⟨by omega, rfl, fun i hi => ?_⟩)
        by_cases e : i = k
        · rw [e]; exact decide_eq_false (fun w => w c2)
        · exact f1 i (by omega)
      · have c2 : lim Q ed k ≠ qun Q Q.1 := fun w => c2 (by rw [w])
        have hf : frI Q ed = k := ff_at (show k < Q.1 by omega) (decide_eq_true c2) f1
        rw [if_pos (by omega), hf] at hr
        subst hr
        rw [ai_n _ _ (by omega), (hXH5.2.1 k (by omega)).2.2.2.2.1]
        refine zT.bnT (x_tel _ hX5 (by simp)) ?_
        rintro s6 ⟨hE6, hX6⟩
        rw [ai_n _ _ (by omega), hE6.i (show prx 264 k = false by simp [prx]), d1, nI_andn]
        refine zT.bnT (x_tel _ hX6 (by simp)) ?_
        rintro s7 ⟨hE7, hX7⟩
        exact zT.ret ⟨rfl, hEa.trans (prx_xS (hE6.trans hE7)), hX7, ⟨Q, cl, sl', (hXH5.prw hE6).prw hE7⟩⟩
-- the reference
def p150 : Nat → Nat → Bool := fun o _ => o == 150
theorem MA.s150 {s t : ZSt} {a : ZA} (h : MA s a) (hE : zE p150 s t) : MA t a := h.fr hE (fun o j e => by simp [qM, p150] at *; omega)
theorem p150_mo {s t : ZSt} (h : zE p150 s t) : zE pMo s t := h.mono (fun o j e => by simp [pMo, p150] at *; omega)
theorem MF.g {u v : ZSt} {a : ZA} {Q : ZQ} {ed : Nat → List Nat} (h : MF u a Q ed) (hE : zE p150 u v) : MF v a Q ed := h.fr hE (fun o j e => by simp [p150] at *; omega)
set_option maxHeartbeats 2000000 in
theorem m_free {n : Nat} {s : ZSt} {a : ZA} (hn : 70000 < n) (h : MA s a) : zT (f_M_free n s) (mP (sFree a).1 (sFree a).2 s) := by
  generalize hr : sFree a = r
  unfold sFree at hr
  unfold f_M_free
  refine zT.ln (fun s1 hs1 => ?_)
  obtain ⟨hz, hE0, h00⟩ := mz h hs1
  clear hs1
  refine zT.bnE (m_stateNow hz.2.1.2.2.2.2.1 ((okS_f h.1).S h.1.2.2.2.1)) ?_
  refine zT.bnT (m_explores (by omega) hz (now_ok h.1) (now_lt h.1)) ?_
  rintro ⟨w, s2⟩ ⟨hE2, hM2, hB⟩
  dsimp only at *
  have hB : meB a (w, s2) (sFrom a) := hB
  cases hq : sFrom a with
  | none =>
    rw [hq] at hB hr
    have hB : w = false := hB
    rw [hB]
    subst hr
    exact zT.ie (by decide) (zT.ret ⟨rfl, hE0.trans hE2, hM2⟩)
  | some x =>
  obtain ⟨Q, ed⟩ := x
  obtain ⟨hOK, h0, _, _, hcl, _⟩ := sch_some hq
  have h5 := hOK.2.1
  have hed := qcl_ed hcl
  have h36 := ed_36 hcl (fun c => suc_36 a wal c)
  rw [hq] at hB hr
  obtain ⟨hw, hMF⟩ := hB
  have hw : w = true := hw
  rw [hw]
  dsimp only at hr hMF
  have hE02 := hE0.trans hE2
  refine zT.it rfl ?_
  refine zT.cnt 5000 (fun k x => k ≤ Q.1 ∧ x.1 = nI k ∧ zE p150 s2 x.2 ∧ cells x.2 150 k (can0 Q)) (by omega) ⟨Nat.zero_le _, rfl, zE.refl _ _, fun j hj => absurd hj (Nat.not_lt_zero _)⟩ ?_
  rintro j k ⟨_, u⟩ hk ⟨hkQ, rfl, hE, hl⟩ hj
  dsimp only at *
  obtain ⟨⟨cl, sl', hX⟩, x2, x3⟩ := hMF.g hE
  rw [hX.1]
  refine zT.ite (fun c => ?_) (fun c => ?_)
  rotate_left
  · rw [nI_leI (by omega) (by omega)] at c
    obtain ⟨g1, g2, _⟩ := hX.2.1 k (by omega)
    refine zT.gu (inb_n (by omega) (by decide)) ?_
    rw [al_n _ _ (by omega), g1, ev_c g2, sai_n _ _ _ (by omega), nI_1]
    refine zT.ltS (zT.ltS (hj (by omega) _ ⟨by omega, rfl, hE.wi rfl, fun i hi => ?_⟩))
    dsimp only
    rw [gi_i]
    by_cases e : i = k
    · rw [if_pos ⟨rfl, e⟩, e]; exact ⟨rfl, can0_lt Q k⟩
    · rw [if_neg (fun w => e w.2)]; exact hl i (by omega)
  rw [nI_leI (by omega) (by omega)] at c
  have e : k = Q.1 := by omega
  subst e
  clear hj hk hkQ c
  refine zT.cnt 60001 (fun k x => zE p150 s2 x.2 ∧ cells x.2 150 Q.1 (git ed Q.1 (can0 Q) k) ∧ ((x.1 = 0 ∧ k ≤ 60001 ∧ ∃ k', k = k' + 1 ∧ k' ≤ 60000 ∧ git ed Q.1 (can0 Q) (k' + 1) = git ed Q.1 (can0 Q) k') ∨ (x.1 = 1 ∧ ∀ j, j < k → git ed Q.1 (can0 Q) (j + 1) ≠ git ed Q.1 (can0 Q) j))) (by omega) ⟨hE, hl, Or.inr ⟨rfl, fun j hj => absurd hj (Nat.not_lt_zero _)⟩⟩ ?_
  rintro j9 k ⟨m, v⟩ hk ⟨hE3, hc3, hm⟩ hj9
  dsimp only at *
  obtain ⟨⟨cl3, sl3, hX3⟩, y2, y3⟩ := hMF.g hE3
  rcases hm with ⟨rfl, _, k', rfl, hk', hfix⟩ | ⟨rfl, hne⟩
  · -- told
    have hlim : cells v 150 Q.1 (lim Q ed) := by
      show cells v 150 Q.1 (git ed Q.1 (can0 Q) 60000)
      rw [git_lim hk' hfix, ← hfix]
      exact hc3
    have hul := qun_lt Q Q.1
    refine zT.it rfl (zT.bnE (m_everFound (by omega) hX3) (zT.ln (fun s5 hs5 => ?_)))
    have hE5 : zE prm v s5 := by rw [hs5]; exact (zE.refl _ _).wi rfl
    have hMH5 := hX3.prm hE5 (fun o j e => by simp [prm] at e; omega)
    have hc5 : cells s5 150 Q.1 (lim Q ed) := fun j hj => ⟨(hE5.i (by simp [prm])).trans (hlim j hj).1, (hlim j hj).2⟩
    have hM5 : MA s5 (putR a []) := by rw [hs5]; exact (hM2.s150 hE3).put0
    have hEa : zE pMo s s5 := hE02.trans ((p150_mo hE3).trans (prm_mo hE5))
    refine zT.cnt 5000 (fun k x => k ≤ Q.1 ∧ x = nI k ∧ ∀ i, i < k → decide (lim Q ed i ≠ qun Q Q.1) = false) (by omega) ⟨Nat.zero_le _, rfl, fun i hi => absurd hi (Nat.not_lt_zero _)⟩ ?_
    rintro j k _ hk ⟨hkQ, rfl, f1⟩ hj
    rw [hMH5.1]
    refine zT.ite (fun c1 => ?_) (fun c1 => ?_)
    · rw [nI_leI (by omega) (by omega)] at c1
      have e : k = Q.1 := by omega
      subst e
      have : frI Q ed = Q.1 := ff_no f1
      rw [if_neg (by omega)] at hr
      subst hr
      exact zT.ret ⟨rfl, hEa, hM5⟩
    · rw [nI_leI (by omega) (by omega)] at c1
      refine zT.gu (inb_n (by omega) (by decide)) ?_
      obtain ⟨d1, d2⟩ := hc5 k (by omega)
      rw [ai_n _ _ (by omega), d1]
      refine zT.ite (fun c2 => ?_) (fun c2 => ?_)
      · have c2 := (nI_eq (by omega) (by omega)).mp c2
        rw [nI_1]
        refine zT.ltS (hj (by omega) _ ⟨by omega, rfl, fun i hi => ?_⟩)
        by_cases e : i = k
        · rw [e]; exact decide_eq_false (fun w => w c2)
        · exact f1 i (by omega)
      · have c2 : lim Q ed k ≠ qun Q Q.1 := fun w => c2 (by rw [w])
        have hf : frI Q ed = k := ff_at (show k < Q.1 by omega) (decide_eq_true c2) f1
        rw [if_pos (by omega), hf] at hr
        subst hr
        rw [ai_n _ _ (by omega), (hMH5.2.1 k (by omega)).2.2.2.2]
        refine zT.bnT (m_ent _ hM5 (by simp)) ?_
        rintro s6 ⟨hE6, hM6⟩
        rw [ai_n _ _ (by omega), hE6.i (show prm 150 k = false by simp [prm]), d1, nI_andn]
        refine zT.bnT (m_ent _ hM6 (by simp)) ?_
        rintro s7 ⟨hE7, hM7⟩
        exact zT.ret ⟨rfl, hEa.trans (prm_mo (hE6.trans hE7)), hM7⟩
  refine zT.ie (by decide) ?_
  have hk6 := git_60 hed (fun i _ => can0_lt Q i) h5 hne
  rw [hX3.1]
  refine zT.ln (fun v8 hv8 => ?_)
  generalize he0 : git ed Q.1 (can0 Q) k = e0 at hc3
  refine zT.cnt Q.1 (fun c x => x.2.1 = (if c < Q.1 then nI (Q.1 - 1 - c) else -1) ∧ zE p150 s2 x.2.2 ∧ ∃ e, cells x.2.2 150 Q.1 e ∧ psI ed Q.1 e0 (Q.1 - c) x.1 e) (by omega) ⟨?_, hE3, e0, hc3, rfl, fun j hj => rfl, Or.inl ⟨rfl, rfl⟩⟩ ?_
  · dsimp only
    by_cases q : 0 < Q.1
    · rw [if_pos q, hv8, Nat.sub_zero, show Q.1 = (Q.1 - 1) + 1 by omega, show (nI (Q.1 - 1 + 1) - 1) = nI (Q.1 - 1) from nI_pred _, Nat.add_sub_cancel]
    · rw [if_neg q, hv8, show Q.1 = 0 by omega]; rfl
  rintro j10 c3 ⟨mo, w, y⟩ hc3' ⟨hw, hE4, e, hce, hps⟩ hj10
  dsimp only at *
  by_cases q : c3 < Q.1
  rotate_left
  · rw [if_neg q] at hw
    rw [hw]
    refine zT.it (by decide) ?_
    rw [show Q.1 - c3 = 0 by omega] at hps
    obtain ⟨r1, r2, r3⟩ := hps
    have r1 : e = gpd ed Q.1 e0 := r1
    have hg : git ed Q.1 (can0 Q) (k + 1) = e := by rw [git_s, he0, r1]
    refine hj9 (by omega) _ ⟨hE4, by dsimp only; rw [hg]; exact hce, ?_⟩
    dsimp only
    rcases r3 with ⟨t1, t2⟩ | ⟨t1, jj, _, t2⟩
    · refine Or.inl ⟨t1, by omega, k, rfl, hk6, ?_⟩
      rw [hg, he0, t2]
    · refine Or.inr ⟨t1, fun i hi => ?_⟩
      by_cases ei : i = k
      · rw [ei, hg, he0]
        exact fun w => t2 (by rw [w])
      · exact hne i (by omega)
  rw [if_pos q] at hw
  rw [hw]
  obtain ⟨d, hd'⟩ : ∃ d, d = Q.1 - 1 - c3 := ⟨_, rfl⟩
  rw [← hd']
  have hdQ : d < Q.1 := by omega
  rw [show Q.1 - c3 = d + 1 by omega] at hps
  obtain ⟨_, z2, z3⟩ := hMF.g hE4
  have h36d := h36 d hdQ
  refine zT.ie (nI_nneg (by omega)) (zT.gu (inb_n (by omega) (by decide)) ?_)
  rw [ai_n _ _ (by omega), (hce d hdQ).1]
  refine zT.ltS ?_
  refine zT.jnQ (fun x => x = nI (grw e d (ed d))) ?_ ?_
  · rintro _ rfl
    have hgl : grw e d (ed d) < 4096 := gor_lt (hce d hdQ).2 _ (fun m hm => (hce _ (hed d hdQ m hm)).2)
    refine zT.jnQ (fun x => x = if mo = 0 ∧ grw e d (ed d) = e d then 0 else 1) ?_ ?_
    · rintro _ hx
      rw [sai_n _ _ _ (by omega)]
      refine zT.ltS (zT.ln (fun v22 hv22 => hj10 q _ ⟨?_, hE4.wi rfl, ups e d (grw e d (ed d)), fun j hj => ?_, ?_⟩))
      · dsimp only
        by_cases q2 : c3 + 1 < Q.1
        · rw [if_pos q2, hv22, show d = (Q.1 - 1 - (c3 + 1)) + 1 by omega, nI_m1 (by omega)]
        · rw [if_neg q2, hv22, show d = 0 by omega]; rfl
      · dsimp only
        rw [gi_i, ups_i]
        by_cases e3 : j = d
        · rw [if_pos ⟨rfl, e3⟩, if_pos e3]
          exact ⟨rfl, hgl⟩
        · rw [if_neg (fun w => e3 w.2), if_neg e3]
          exact hce j hj
      · rw [show Q.1 - (c3 + 1) = d by omega]
        exact psI_go hps hx
    · intro j31 hj31
      refine zT.jnQ (fun _ => ¬ (mo = 0 ∧ grw e d (ed d) = e d)) ?_ ?_
      · rintro _ hx
        exact hj31 _ (by rw [if_neg hx])
      · intro j33 hj33
        refine zT.ite (fun c4 => ?_) (fun c4 => hj33 _ (fun w => c4 w.1))
        refine zT.ite (fun c5 => ?_) (fun c5 => hj33 _ (fun w => c5 (by rw [w.2])))
        have c5 := (nI_eq (by omega) (by have := (hce d hdQ).2; omega)).mp c5
        exact hj31 _ (by rw [if_pos ⟨c4, c5⟩])
  · intro j36 hj36
    refine zT.cnt 36 (fun k x => k ≤ (ed d).length ∧ x.1 = nI (gor e (e d) (ed d) k) ∧ x.2 = nI k) (by omega) ⟨Nat.zero_le _, rfl, rfl⟩ ?_
    rintro j38 k2 ⟨_, _⟩ hk2 ⟨hk3, rfl, rfl⟩ hj38
    dsimp only at *
    have fin : k2 = (ed d).length → zT (j36 (nI (gor e (e d) (ed d) k2))) (mP r.1 r.2 s) := fun ee => hj36 _ (by rw [ee]; rfl)
    refine zT.ite (fun c4 => ?_) (fun c4 => ?_)
    · rw [show (36 : Int32) = nI 36 from rfl, nI_leI (by omega) (by omega)] at c4
      exact fin (by omega)
    rw [show (36 : Int32) = nI 36 from rfl, nI_leI (by omega) (by omega)] at c4
    rw [show (36 : Int32) = nI 36 from rfl, nI_mulL, nI_add]
    refine zT.gu (inb_n (by omega) (by decide)) ?_
    rw [ai_n y 147 (show 36 * d + k2 < 2 ^ 31 by omega), z3 d k2 hdQ (by omega)]
    by_cases q3 : k2 < (ed d).length
    · rw [erow_yes q3]
      have hx := hed d hdQ k2 q3
      refine zT.ie (nI_nneg (by omega)) (zT.gu (inb_n (by omega) (by decide)) ?_)
      rw [ai_n _ _ (by omega), (hce _ hx).1, nI_or, nI_1]
      exact zT.ltS (zT.ltS (hj38 (by omega) _ ⟨by omega, by rw [gor_s], rfl⟩))
    · rw [erow_no (by omega)]
      exact zT.it (by decide) (fin (by omega))
end Z81
