-- keeps in the class
section Z88
theorem x_set1 {t k : Nat} (ht : t < 3) (hk : k < 4096) : f_X_with (0 : Int64) (nI t) (nI k) = lN (en (ups (fun _ => 0) t k)) := by
  have := with_e okS_0 ht (m := k) hk
  rw [en_0] at this
  exact this
theorem x_stl {n T t k : Nat} {s : ZSt} {a : ZA} (hn : 60 < n) (h : XX s T a) (ht : t < 3) (hk : k < 4096) : zT (f_T_settled n (f_X_with (0 : Int64) (nI t) (nI k)) (nI t) s) (fun q => q.1 = lN (oc t (stt (aD a) a.2.1.1 t k)) ∧ zE pmb s q.2 ∧ XX q.2 T a) := by
  obtain ⟨hA, ⟨st, hst, hB⟩, hO⟩ := h
  rw [x_set1 ht hk]
  refine (t_settled hn hB.1 ht (oc_S hk)).mono ?_
  rintro ⟨_, u⟩ ⟨rfl, hE, hK⟩
  refine ⟨?_, hE, XX.smb hA hst hB hO hE hK⟩
  dsimp only
  rw [ups_s, ups_ups]
  rfl
theorem pmb_cells {u v : ZSt} {N : Nat} {e : Nat → Nat} (h : cells u 264 N e) (hE : zE pmb u v) : cells v 264 N e := fun j hj => ⟨(hE.i (by simp [pmb])).trans (h j hj).1, (h j hj).2⟩
set_option maxHeartbeats 2000000 in
theorem x_keeps {n T : Nat} {s : ZSt} {a : ZA} (x y : Int32) (hn : 70000 < n) (h : XX s T a) (hS : XS s) : zT (f_X_keeps n x y s) (xPS (sKeeps x y a).1 T (sKeeps x y a).2 s) := by
  have hnb := h.1.2.2.2.1
  have h12 := pw_12 hnb
  have hp : 0 < 2 ^ a.2.1.1 := Nat.pow_pos (by decide)
  obtain ⟨hA, ⟨st, hst, hB0⟩, hO⟩ := id h
  generalize hr : sKeeps x y a = r
  unfold sKeeps at hr
  unfold f_X_keeps
  rw [inb_xTab, inb_beyond hB0.1.1.1 hnb]
  refine zT.ite (fun c => ?_) (fun c => ?_)
  rotate_left
  · rw [if_neg (fun w => c w.1)] at hr
    subst hr
    exact zT.ret ⟨rfl, zE.refl _ _, h, hS⟩
  refine zT.ite (fun c2 => ?_) (fun c2 => ?_)
  · rw [if_neg (fun w => by rw [w.2] at c2; cases c2)] at hr
    subst hr
    exact zT.ret ⟨rfl, zE.refl _ _, h, hS⟩
  have d2 : inb y (2 ^ a.2.1.1) = true := by cases q : inb y (2 ^ a.2.1.1); rw [q] at c2; exact absurd rfl c2; rfl
  rw [if_pos ⟨c, d2⟩] at hr
  obtain ⟨t, ht, rfl⟩ := (inb_iff (by omega)).mp c
  obtain ⟨Y, hY, rfl⟩ := (inb_iff (by omega)).mp d2
  rw [nI_clamp (by omega), nI_clamp (by omega)] at hr
  have hrm := hB0.1.2.2 t ht
  refine zT.gu (inb_n ht (by decide)) ?_
  rw [ai_n _ _ (by omega), hrm.1]
  refine zT.ltS ?_
  obtain ⟨Qs, cells0, slot0, hXs⟩ := hS
  refine zT.bnT (hXs.clear (by omega)) ?_
  rintro p5 ⟨hE5, c5, l5, hX5⟩
  have hXX5 : XX p5 T a := XX.srch hA hst hB0 hO (pxq_xs hE5) (hB0.1.frq hE5)
  refine zT.cnt (2 ^ a.2.1.1) (fun k z => z.1 = nI k ∧ zE pxs s z.2 ∧ XX z.2 T a ∧ ∃ Q cl sl', XH z.2 Q cl sl' ∧ qOK Q ∧ (∀ i, i < Q.1 → onO a t (Q.2.1 i)) ∧ ∀ m, m < k → pcn m ≤ a.2.1.2.2.2.2.2 t → ∃ i, i < Q.1 ∧ Q.2.1 i = oc t (stt (aD a) a.2.1.1 t m)) (by omega) ⟨rfl, pxq_xs hE5, hXX5, q0, c5, l5, hX5, q0_OK, fun i hi => absurd hi (Nat.not_lt_zero _), fun m hm => absurd hm (Nat.not_lt_zero _)⟩ ?_
  rintro j7 k ⟨_, u⟩ hk ⟨rfl, hE, hX, Q, cl, sl', hXH, hOK, hon, hin⟩ hj7
  dsimp only at *
  obtain ⟨_, ⟨st2, hst2, hB2⟩, hO2⟩ := id hX
  rw [t_all hB2.1.1.1 hnb]
  refine zT.ite (fun c3 => ?_) (fun c3 => ?_)
  rotate_left
  · rw [nI_ltI (by omega) (by omega)] at c3
    have hkn : k < 2 ^ a.2.1.1 := by omega
    have hpk := pcn_le k
    refine zT.jnQ (fun z => zE pxs s z ∧ XX z T a ∧ ∃ Q cl sl', XH z Q cl sl' ∧ qOK Q ∧ (∀ i, i < Q.1 → onO a t (Q.2.1 i)) ∧ ∀ m, m < k + 1 → pcn m ≤ a.2.1.2.2.2.2.2 t → ∃ i, i < Q.1 ∧ Q.2.1 i = oc t (stt (aD a) a.2.1.1 t m)) ?_ ?_
    · rintro z ⟨z1, z2, z3⟩
      rw [nI_1]
      exact zT.ltS (hj7 (by omega) _ ⟨rfl, z1, z2, z3⟩)
    · intro j33 hj33
      rw [bc_n _ (show k < 4096 by omega)]
      refine zT.ite (fun c4 => ?_) (fun c4 => ?_)
      · rw [nI_ltI (by omega) (by omega)] at c4
        refine hj33 _ ⟨hE, hX, Q, cl, sl', hXH, hOK, hon, fun m hm hpm => ?_⟩
        by_cases e : m = k
        · subst e; omega
        · exact hin m (by omega) hpm
      · rw [nI_ltI (by omega) (by omega)] at c4
        refine zT.bnT (x_stl (by omega) hX ht (show k < 4096 by omega)) ?_
        rintro ⟨_, v⟩ ⟨rfl, hE2, hX2⟩
        dsimp only at *
        have hstl : stt (aD a) a.2.1.1 t k < 2 ^ a.2.1.1 := stt_lt hkn
        have hXH2 : XH v Q cl sl' := hXH.fr hE2 (fun o j e => by simp [pmb] at *; omega)
        unfold f_S_seed
        have hput := one_put (c := oc t (stt (aD a) a.2.1.1 t k)) (d := 0) (f := -1) (b := -1) ht hnb hOK.1 hon
        obtain ⟨i', Q', hq⟩ : ∃ i' Q', qput Q (oc t (stt (aD a) a.2.1.1 t k)) (-1) (-1) 0 = some (i', Q') := by
          rw [hput]; split <;> exact ⟨_, _, rfl⟩
        obtain ⟨p1, p2, p3, p4⟩ := qput_sp hq hOK (Or.inl ⟨rfl, rfl⟩)
        have hon' := qput_all (R := onO a t) hq hon ⟨_, hstl, rfl⟩
        refine zT.bnT (zT.bnT (hXH2.place (d := 0) (f := -1) (a := -1) (by omega) (oc_lt (by omega)) (Or.inl ⟨rfl, rfl⟩)) (fun p hp => zT.ret (P := fun z => zE pxq v z ∧ ∃ cl sl', XH z Q' cl sl') ?_)) ?_
        · obtain ⟨e1, e2⟩ := hp
          rw [hq] at e2
          exact ⟨e1, e2.2.2⟩
        rintro w ⟨hE3, cl3, sl3, hXH3⟩
        obtain ⟨_, ⟨st3, hst3, hB3⟩, hO3⟩ := id hX2
        refine hj33 _ ⟨hE.trans ((pmb_xs hE2).trans (pxq_xs hE3)), XX.srch hA hst3 hB3 hO3 (pxq_xs hE3) (hB3.1.frq hE3), Q', cl3, sl3, hXH3, p2, hon', fun m hm hpm => ?_⟩
        by_cases e : m = k
        · subst e
          refine ⟨i', p4, ?_⟩
          rcases qat_cases Q' (oc t (stt (aD a) a.2.1.1 t m)) with ⟨_, g2⟩ | ⟨g1, _⟩
          · rw [p3]; exact g2
          · omega
        · obtain ⟨i, i1, i2⟩ := hin m (by omega) hpm
          exact ⟨i, Nat.lt_of_lt_of_le i1 p1.1, ((p1.2 i i1).1).trans i2⟩
  rw [nI_ltI (by omega) (by omega)] at c3
  have e : k = 2 ^ a.2.1.1 := by omega
  subst e
  clear hj7 c3
  refine zT.bnT (x_spread (w := wtb t) (by omega) hnb hB2 hXH (fun i hi => by obtain ⟨z, hz, e⟩ := hon i hi; rw [e]; exact oc_F ht hnb hz) (fun c _ => suc_36 a (wtb t) c) (wtb_w ht)) ?_
  intro p9 hp9
  have hcl := onO_suc (a := a) ht hnb
  cases hb : bfs (sucA a (wtb t)) 5001 0 Q (fun _ => []) with
  | none => exact absurd (bfs_no (P := onO a t) hcl _ _ _ _ hb hOK hon) (one_nb ht hnb)
  | some xx =>
  obtain ⟨Q9, ed⟩ := xx
  obtain ⟨r1, r2, r3, r4⟩ := bfs_sp (P := onO a t) hcl _ _ _ _ _ _ hb hOK (by omega) (Nat.zero_le _) hon (fun j hj => absurd hj (Nat.not_lt_zero _))
  rw [hb] at hp9
  obtain ⟨_, z2, z3, z4, z5, z6, z7⟩ := hp9
  have hX9 : XX p9.2 T a := XX.srch hA hst2 hB2 hO2 z2 z3
  have hed := qcl_ed r4
  have hin9 : ∀ m, m < 2 ^ a.2.1.1 → pcn m ≤ a.2.1.2.2.2.2.2 t → ∃ i, i < Q9.1 ∧ Q9.2.1 i = oc t (stt (aD a) a.2.1.1 t m) := fun m hm hpm => by
    obtain ⟨i, i1, i2⟩ := hin m hm hpm
    exact ⟨i, Nat.lt_of_lt_of_le i1 r1.1, ((r1.2 i i1).1).trans i2⟩
  refine zT.bnT (x_gather hn (⟨z4, z5, z6, z7⟩ : XF p9.2 a Q9 ed) hed (ed_36 r4 (fun c => suc_36 a (wtb t) c))) ?_
  rintro s10 ⟨hE10, hc10⟩
  obtain ⟨⟨cl9, sl9, hXH9⟩, _⟩ := XF.g (⟨z4, z5, z6, z7⟩ : XF p9.2 a Q9 ed) hE10
  have hX10 := hX9.s264 hE10
  have hEs : zE pXS s s10 := (xs_xS (hE.trans z2)).trans (p264_xS hE10)
  refine zT.cnt (2 ^ a.2.1.1) (fun k z => z.1 = oI (kps a t Y k) ∧ z.2.1 = nI k ∧ zE pmb s10 z.2.2 ∧ XX z.2.2 T a) (by omega) ⟨rfl, rfl, zE.refl _ _, hX10⟩ ?_
  rintro j12 k ⟨_, _, v⟩ hk ⟨rfl, rfl, hEv, hXv⟩ hj12
  dsimp only at *
  obtain ⟨_, ⟨st4, hst4, hB4⟩, hO4⟩ := id hXv
  have hXHv : XH v Q9 cl9 sl9 := hXH9.fr hEv (fun o j e => by simp [pmb] at *; omega)
  have hSv : XS v := ⟨Q9, cl9, sl9, hXHv⟩
  rw [t_all hB4.1.1.1 hnb]
  refine zT.ite (fun c3 => ?_) (fun c3 => ?_)
  · rw [nI_ltI (by omega) (by omega)] at c3
    have e : k = 2 ^ a.2.1.1 := by omega
    subst e
    cases hq : kps a t Y (2 ^ a.2.1.1) with
    | none =>
      rw [hq] at hr
      subst hr
      exact zT.it rfl (zT.ret ⟨rfl, hEs.trans (xo_xS (pmb_xo hEv)), hXv, hSv⟩)
    | some b =>
      have hbl := kps_lt a t Y _ b hq
      rw [hq] at hr
      subst hr
      refine zT.ie (show ¬ nI b = -1 from nI_nm1 (by omega)) (zT.ltS ?_)
      refine zT.bnT (x_tel _ hXv.put0 (by simp)) ?_
      rintro w ⟨hE3, hX3⟩
      have hEp : zE prx v w := zE.trans ((zE.refl _ _).wi rfl) hE3
      exact zT.ret ⟨bc_n b (by omega), hEs.trans ((xo_xS (pmb_xo hEv)).trans (prx_xS hEp)), hX3, ⟨Q9, cl9, sl9, hXHv.prw hEp⟩⟩
  rw [nI_ltI (by omega) (by omega)] at c3
  have hkn : k < 2 ^ a.2.1.1 := by omega
  have hpk := pcn_le k
  rw [bc_n _ (show k < 4096 by omega)]
  refine zT.ltS (zT.jnQ (fun z => z.1 = oI (kps a t Y (k + 1)) ∧ zE pmb s10 z.2 ∧ XX z.2 T a) ?_ ?_)
  · rintro ⟨_, z⟩ ⟨rfl, q1, q2⟩
    rw [nI_1]
    exact zT.ltS (hj12 (by omega) _ ⟨rfl, rfl, q1, q2⟩)
  · intro j20 hj20
    rw [kps_s] at hj20
    have no : ∀ z, kpt a t Y k (evr a t) (kps a t Y k) = false → zE pmb s10 z → XX z T a → zT (j20 (oI (kps a t Y k), z)) (xPS r.1 T r.2 s) := fun z q q1 q2 => hj20 _ ⟨by dsimp only; rw [q, if_neg (by decide)], q1, q2⟩
    refine zT.ite (fun c4 => ?_) (fun c4 => ?_)
    · rw [nI_ltI (by omega) (by omega)] at c4
      refine no _ ?_ hEv hXv
      unfold kpt
      rw [decide_eq_false (show ¬ pcn k ≤ a.2.1.2.2.2.2.2 t by omega), Bool.false_and]
    rw [nI_ltI (by omega) (by omega)] at c4
    have c4 : pcn k ≤ a.2.1.2.2.2.2.2 t := by omega
    refine zT.jnQ (fun _ => klt k (kps a t Y k) = true) ?_ ?_
    · rintro _ hlt
      refine zT.bnT (x_stl (by omega) hXv ht (show k < 4096 by omega)) ?_
      rintro ⟨_, w⟩ ⟨rfl, hE3, hX3⟩
      dsimp only at *
      have hXHw : XH w Q9 cl9 sl9 := hXHv.fr hE3 (fun o j e => by simp [pmb] at *; omega)
      have hstl : stt (aD a) a.2.1.1 t k < 2 ^ a.2.1.1 := stt_lt hkn
      obtain ⟨i, i1, i2⟩ := hin9 k hkn c4
      have hqi : qat Q9 (oc t (stt (aD a) a.2.1.1 t k)) = i := by
        have := qat_in r2.1 i1
        rw [i2] at this
        exact this
      have h5 := r2.2.1
      refine zT.bnE (hXHw.index (by omega) (oc_lt (by omega))) ?_
      rw [hqi, if_pos i1]
      refine zT.ie (nI_nm1 (by omega)) (zT.gu (inb_n (by omega) (by decide)) ?_)
      obtain ⟨g1, g2⟩ := pmb_cells hc10 (hEv.trans hE3) i i1
      have hle := ndf_le Y (lim Q9 ed i)
      rw [ai_n _ _ (by omega), g1, nI_andn]
      have hlim := lim_evr ht hnb r4 h5 i1 hstl i2
      have hkpt : kpt a t Y k (evr a t) (kps a t Y k) = decide (ndf Y (lim Q9 ed i) = 0) := by
        unfold kpt
        rw [hlt, decide_eq_true c4, hlim]
        rfl
      refine zT.ite (fun c5 => ?_) (fun c5 => ?_)
      · have c5 := (nI_eq (b := 0) (by omega) (by decide)).mp c5
        refine hj20 _ ⟨?_, hEv.trans hE3, hX3⟩
        dsimp only
        rw [hkpt, if_pos (decide_eq_true c5)]
        rfl
      · exact no _ (by rw [hkpt]; exact decide_eq_false (fun w => c5 (by rw [w]; rfl))) (hEv.trans hE3) hX3
    · intro j28 hj28
      cases hq : kps a t Y k with
      | none =>
        rw [hq] at hj28
        exact zT.it rfl (hj28 () rfl)
      | some b =>
        have hbl := kps_lt a t Y _ b hq
        have hpb := pcn_le b
        refine zT.ie (show ¬ nI b = -1 from nI_nm1 (by omega)) ?_
        show zT (if f_J_bitCount (nI b) ≤ nI (pcn k) then j20 (nI b, v) else j28 ()) _
        rw [bc_n b (by omega)]
        refine zT.ite (fun c5 => ?_) (fun c5 => ?_)
        · rw [nI_leI (by omega) (by omega)] at c5
          have := no v (by
            unfold kpt
            rw [hq, show klt k (some b) = false from decide_eq_false (show ¬ pcn k < pcn b by omega), Bool.false_and, Bool.and_false]) hEv hXv
          rw [hq] at this
          exact this
        · rw [nI_leI (by omega) (by omega)] at c5
          rw [hq] at hj28
          exact hj28 () (decide_eq_true (show pcn k < pcn b by omega))
end Z88
