-- the reference's search on one table
section Z84
def xi (Q : ZQ) (t i : Nat) : Nat := dcd (Q.2.1 i) t
def MT (u : ZSt) (a : ZA) (t : Nat) (Q : ZQ) : Prop :=
  gi u 0 40 = nI Q.1 ∧ qOK Q ∧ (∀ k, k < Q.1 → onO a t (Q.2.1 k)) ∧
  (∀ i, i < Q.1 → gi u 139 i = nI (xi Q t i) ∧ gi u 137 (xi Q t i) = nI (Q.2.2.2.2 i) ∧ (Q.2.2.1 i = -1 ∨ ∃ j k, j < Q.1 ∧ k < 24 ∧ Q.2.2.1 i = nI j ∧ gi u 138 (xi Q t i) = nI (24 * xi Q t j + k) ∧ Q.2.2.2.1 i = nI (acs t k))) ∧
  ∀ x, x < 2 ^ a.2.1.1 → (∀ i, i < Q.1 → Q.2.1 i ≠ oc t x) → gi u 137 x = -1
theorem MT.fr {p : Nat → Nat → Bool} {u v : ZSt} {a : ZA} {t : Nat} {Q : ZQ} (h : MT u a t Q) (hE : zE p u v) (hp : ∀ o j, ((o == 0 && j == 40) || o == 137 || o == 138 || o == 139) = true → p o j = false) : MT v a t Q := by
  obtain ⟨h1, h2, h3, h4, h5⟩ := h
  have hq : ∀ o j, ((o == 0 && j == 40) || o == 137 || o == 138 || o == 139) = true → gi v o j = gi u o j := fun o j e => hE.i (hp o j e)
  refine ⟨(hq _ _ rfl).trans h1, h2, h3, fun i hi => ?_, fun x hx hn => (hq _ _ rfl).trans (h5 x hx hn)⟩
  obtain ⟨g1, g2, g3⟩ := h4 i hi
  refine ⟨(hq _ _ rfl).trans g1, (hq _ _ rfl).trans g2, ?_⟩
  rcases g3 with g3 | ⟨j, k, j1, j2, j3, j4, j5⟩
  · exact Or.inl g3
  · exact Or.inr ⟨j, k, j1, j2, j3, (hq _ _ rfl).trans j4, j5⟩
theorem xi_o {a : ZA} {t i : Nat} {Q : ZQ} (ht : t < 3) (hnb : a.2.1.1 ≤ 12) (h : onO a t (Q.2.1 i)) : Q.2.1 i = oc t (xi Q t i) ∧ xi Q t i < 2 ^ a.2.1.1 := by
  have h12 := pw_12 hnb
  obtain ⟨x, hx, e⟩ := h
  have : xi Q t i = x := by unfold xi; rw [e, oc_at ht (by omega)]
  rw [this]
  exact ⟨e, hx⟩
def pT : Nat → Nat → Bool := fun o j => o == 137 || o == 138 || o == 139 || (o == 0 && j == 40)
theorem MT.add {u : ZSt} {a : ZA} {t y k i : Nat} {Q : ZQ} (ht : t < 3) (hnb : a.2.1.1 ≤ 12) (h : MT u a t Q) (hi : i < Q.1) (hk : k < 24) (hy : y < 2 ^ a.2.1.1) (hn : ∀ j, j < Q.1 → Q.2.1 j ≠ oc t y) (h5 : Q.1 < 5000) :
    MT (si (si (si (si u 137 y (nI (Q.2.2.2.2 i + 1))) 138 y (nI (24 * xi Q t i + k))) 139 Q.1 (nI y)) 0 40 (nI (Q.1 + 1))) a t (qadd Q (oc t y) (nI i) (nI (acs t k)) (Q.2.2.2.2 i + 1)) := by
  have h12 := pw_12 hnb
  obtain ⟨h1, h2, h3, h4, h6⟩ := h
  have hq : qput Q (oc t y) (nI i) (nI (acs t k)) (Q.2.2.2.2 i + 1) = some (Q.1, qadd Q (oc t y) (nI i) (nI (acs t k)) (Q.2.2.2.2 i + 1)) := by
    unfold qput
    rw [qat_no hn, if_neg (Nat.lt_irrefl _), if_pos h5]
  obtain ⟨p1, p2, _, _⟩ := qput_sp hq h2 (Or.inr ⟨i, hi, rfl, rfl⟩)
  have x1 : ∀ j, j < Q.1 → xi (qadd Q (oc t y) (nI i) (nI (acs t k)) (Q.2.2.2.2 i + 1)) t j = xi Q t j := fun j hj => by
    unfold xi
    rw [(p1.2 j hj).1]
  have x2 : xi (qadd Q (oc t y) (nI i) (nI (acs t k)) (Q.2.2.2.2 i + 1)) t Q.1 = y := by
    show dcd (ups Q.2.1 Q.1 (oc t y) Q.1) t = y
    rw [ups_s, oc_at ht (by omega)]
  have x3 : ∀ j, j < Q.1 → xi Q t j ≠ y := fun j hj e => by
    obtain ⟨e1, _⟩ := xi_o ht hnb (h3 j hj)
    rw [e] at e1
    exact hn j hj e1
  refine ⟨by rw [gi_i, if_pos ⟨rfl, rfl⟩]; rfl, p2, qput_all (R := onO a t) hq h3 ⟨y, hy, rfl⟩, fun j hj => ?_, fun x hx hnx => ?_⟩
  · have hj : j < Q.1 + 1 := hj
    by_cases e : j = Q.1
    · subst e
      rw [x2]
      refine ⟨?_, ?_, Or.inr ⟨i, k, Nat.lt_succ_of_lt hi, hk, ups_s _ _ _, ?_, ups_s _ _ _⟩⟩
      · rw [gi_i, if_neg (by omega), gi_i, if_pos ⟨rfl, rfl⟩]
      · rw [gi_i, if_neg (by omega), gi_i, if_neg (by omega), gi_i, if_neg (by omega), gi_i, if_pos ⟨rfl, rfl⟩]
        show _ = nI (ups Q.2.2.2.2 Q.1 (Q.2.2.2.2 i + 1) Q.1)
        rw [ups_s]
      · rw [gi_i, if_neg (by omega), gi_i, if_neg (by omega), gi_i, if_pos ⟨rfl, rfl⟩, x1 i hi]
    · have hj : j < Q.1 := by omega
      obtain ⟨g1, g2, g3⟩ := h4 j hj
      obtain ⟨_, q2, q3, q4⟩ := p1.2 j hj
      have hne := x3 j hj
      rw [x1 j hj, q2, q3, q4]
      refine ⟨?_, ?_, ?_⟩
      · rw [gi_i, if_neg (by omega), gi_i, if_neg (by omega)]; exact g1
      · rw [gi_i, if_neg (by omega), gi_i, if_neg (by omega), gi_i, if_neg (by omega), gi_i, if_neg (fun w => hne w.2)]; exact g2
      · rcases g3 with g3 | ⟨m, k', m1, m2, m3, m4, m5⟩
        · exact Or.inl g3
        · refine Or.inr ⟨m, k', Nat.lt_succ_of_lt m1, m2, m3, ?_, m5⟩
          rw [x1 m m1, gi_i, if_neg (by omega), gi_i, if_neg (by omega), gi_i, if_neg (fun w => hne w.2), gi_i, if_neg (by omega)]
          exact m4
  · have hxy : x ≠ y := fun e => by
      apply hnx Q.1 (Nat.lt_succ_self _)
      show ups Q.2.1 Q.1 (oc t y) Q.1 = _
      rw [ups_s, e]
    rw [gi_i, if_neg (by omega), gi_i, if_neg (by omega), gi_i, if_neg (by omega), gi_i, if_neg (fun w => hxy w.2)]
    refine h6 x hx (fun j hj => ?_)
    have := hnx j (Nat.lt_succ_of_lt hj)
    rw [(p1.2 j hj).1] at this
    exact this
theorem LY.fr {p : Nat → Nat → Bool} {u v : ZSt} {a : ZA} {t : Nat} (h : LY u a t) (hE : zE p u v) (hp : ∀ j, p 136 j = false) : LY v a t := fun x k h1 h2 h3 => (hE.i (hp _)).trans (h x k h1 h2 h3)
theorem pT_mo {s t : ZSt} (h : zE pT s t) : zE pMo s t := h.mono (fun o j e => by simp [pMo, pT] at *; omega)
theorem MA.sT {s t : ZSt} {a : ZA} (h : MA s a) (hE : zE pT s t) : MA t a := h.fr hE (fun o j e => by simp [qM, pT] at *; omega)
set_option maxHeartbeats 2000000 in
theorem m_spreads {n t : Nat} {s : ZSt} {a : ZA} (hn : 5001 < n) (h : MA s a) (ht : t < 3) (hLY : LY s a t) : zT (f_M_spreads n (0 : Int32) s) (fun u => zE pT s u ∧ ∃ Q ed, sch (sucA a (wtb t)) 0 = some (Q, ed) ∧ MT u a t Q) := by
  have hnb := h.1.2.2.2.1
  have h12 := pw_12 hnb
  have hp : 0 < 2 ^ a.2.1.1 := Nat.pow_pos (by decide)
  unfold f_M_spreads
  refine zT.cnt (2 ^ a.2.1.1) (fun x z => z.1 = nI x ∧ zE pT s z.2 ∧ ∀ x', x' < x → gi z.2 137 x' = -1) (by omega) ⟨rfl, zE.refl _ _, fun x' hx => absurd hx (Nat.not_lt_zero _)⟩ ?_
  rintro j2 x ⟨_, u⟩ hx ⟨rfl, hE, hl⟩ hj2
  dsimp only at *
  rw [(h.sT hE).2.1.1.1, shI_n (by omega)]
  refine zT.ite (fun c => ?_) (fun c => ?_)
  rotate_left
  · rw [nI_leI (by omega) (by omega)] at c
    refine zT.gu (inb_n (by omega) (by decide)) ?_
    rw [sai_n _ _ _ (by omega), nI_1]
    refine zT.ltS (zT.ltS (hj2 (by omega) _ ⟨rfl, hE.wi rfl, fun x' hx' => ?_⟩))
    dsimp only
    rw [gi_i]
    by_cases e : x' = x
    · rw [if_pos ⟨rfl, e⟩]
    · rw [if_neg (fun w => e w.2)]; exact hl x' (by omega)
  rw [nI_leI (by omega) (by omega)] at c
  have e : x = 2 ^ a.2.1.1 := by omega
  subst e
  clear hj2 c hx
  rw [show (0 : Int32) = nI 0 from rfl]
  rw [sai_n u 139 _ (show (0 : Nat) < 2 ^ 31 by decide)]
  refine zT.ltS (zT.ltS (zT.gu (inb_n (by decide) (by decide)) ?_))
  rw [sai_n _ 137 _ (show (0 : Nat) < 2 ^ 31 by decide)]
  refine zT.ltS ?_
  rw [sai_n _ 138 _ (show (0 : Nat) < 2 ^ 31 by decide)]
  refine zT.ln (fun s8 hs8 => ?_)
  have hE8 : zE pT s s8 := by rw [hs8]; exact (((hE.wi (by simp [pT])).wi (by simp [pT])).wi (by simp [pT])).wi (by simp [pT])
  have hMT : MT s8 a t (q1 0) := by
    have d0 : ∀ u, dcd 0 u = 0 := fun u => by unfold dcd; rw [Nat.zero_shiftRight]
    refine ⟨?_, q1_OK 0, q1_all (P := onO a t) onO_0, fun i hi => ?_, fun x hx hnx => ?_⟩
    · rw [hs8, gi_i, if_neg (by omega), gi_i, if_neg (by omega), gi_i, if_pos ⟨rfl, rfl⟩]; rfl
    · have : i = 0 := by have hi : i < 0 + 1 := hi; omega
      subst this
      have e0 : xi (q1 0) t 0 = 0 := d0 t
      rw [e0]
      refine ⟨?_, ?_, Or.inl rfl⟩
      · rw [hs8, gi_i, if_neg (by omega), gi_i, if_neg (by omega), gi_i, if_neg (by omega), gi_i, if_pos ⟨rfl, rfl⟩]
      · rw [hs8, gi_i, if_neg (by omega), gi_i, if_pos ⟨rfl, rfl⟩]; rfl
    · have hx0 : x ≠ 0 := fun e => hnx 0 (Nat.lt_succ_self _) (by rw [e, oc_0]; rfl)
      rw [hs8, gi_i, if_neg (by omega), gi_i, if_neg (fun w => hx0 w.2), gi_i, if_neg (by omega), gi_i, if_neg (by omega)]
      exact hl x hx
  have hB0 : sch (sucA a (wtb t)) 0 = bfs (sucA a (wtb t)) 5001 0 (q1 0) (fun _ => []) := rfl
  generalize sch (sucA a (wtb t)) 0 = B at hB0 ⊢
  refine zT.cnt 5000 (fun i z => z.1 = nI i ∧ zE pT s z.2 ∧ ∃ Q ed, B = bfs (sucA a (wtb t)) (5001 - i) i Q ed ∧ i ≤ Q.1 ∧ MT z.2 a t Q) (by omega) ⟨rfl, hE8, q1 0, _, hB0, Nat.zero_le _, hMT⟩ ?_
  rintro j10 i ⟨_, v⟩ hi ⟨rfl, hE2, Q, ed, hB, hiQ, hT⟩ hj10
  dsimp only at *
  obtain ⟨t1, t2, t3, t4, t5⟩ := id hT
  have hfew := one_few ht hnb t2.1 t3
  rw [t1]
  rw [show 5001 - i = (5000 - i) + 1 by omega, bfs_s] at hB
  refine zT.ite (fun c => ?_) (fun c => ?_)
  · rw [nI_leI (by omega) (by omega)] at c
    rw [if_neg (by omega)] at hB
    exact zT.ret ⟨hE2, Q, ed, hB, hT⟩
  rw [nI_leI (by omega) (by omega)] at c
  have hiQ : i < Q.1 := by omega
  rw [if_pos hiQ] at hB
  obtain ⟨o1, o2⟩ := xi_o ht hnb (t3 i hiQ)
  refine zT.gu (inb_n (by omega) (by decide)) ?_
  rw [ai_n _ _ (by omega), (t4 i hiQ).1]
  refine zT.ltS ?_
  have hsl : sucA a (wtb t) (Q.2.1 i) = slt a t (xi Q t i) 24 := by rw [slt_all ht hnb o2, ← o1]
  rw [hsl] at hB
  generalize hxe : xi Q t i = x at o1 o2 hB ⊢
  refine zT.cnt 24 (fun k z => z.1 = nI k ∧ zE pT s z.2 ∧ ∃ Q' es, bacts (slt a t x k) i Q [] = some (Q', es) ∧ Q'.2.1 i = oc t x ∧ i < Q'.1 ∧ MT z.2 a t Q') (by omega) ⟨rfl, hE2, Q, [], rfl, o1, hiQ, hT⟩ ?_
  rintro j15 k ⟨_, w⟩ hk ⟨rfl, hE3, Q', es, hb, hc, hiQ', hT'⟩ hj15
  dsimp only at *
  obtain ⟨u1, u2, u3, u4, u5⟩ := id hT'
  have hfew' := one_few ht hnb u2.1 u3
  refine zT.ite (fun c2 => ?_) (fun c2 => ?_)
  · rw [show (24 : Int32) = nI 24 from rfl, nI_leI (by omega) (by omega)] at c2
    have e : k = 24 := by omega
    subst e
    rw [hb] at hB
    rw [nI_1]
    exact zT.ltS (hj10 (by omega) _ ⟨rfl, hE3, Q', ups ed i es, by rw [hB, show 5001 - (i + 1) = 5000 - i by omega], by omega, hT'⟩)
  rw [show (24 : Int32) = nI 24 from rfl, nI_leI (by omega) (by omega)] at c2
  have hMw := h.sT hE3
  refine zT.jnQ (fun y => y = nxt a t x k) ?_ ?_
  · rintro _ rfl
    refine zT.jnQ (fun z => zE pT s z ∧ ∃ Q' es, bacts (slt a t x (k + 1)) i Q [] = some (Q', es) ∧ Q'.2.1 i = oc t x ∧ i < Q'.1 ∧ MT z a t Q') ?_ ?_
    · rintro z ⟨z1, z2⟩
      rw [nI_1]
      exact zT.ltS (hj15 (by omega) _ ⟨rfl, z1, z2⟩)
    · intro j21 hj21
      rw [slt_s] at hj21
      unfold nxt
      by_cases q : nxk a t x k = true
      · rw [if_pos q] at hj21 ⊢
        have hyl := tgx_lt o2 (show k < 24 by omega) q
        generalize tgx a t x k = y at hyl hj21 ⊢
        have hbk : ∀ r, bacts [(acs t k, oc t y)] i Q' es = r → bacts (slt a t x k ++ [(acs t k, oc t y)]) i Q [] = r := fun r hr => by rw [bacts_app, hb]; exact hr
        have hput := one_put (c := oc t y) (d := Q'.2.2.2.2 i + 1) (f := nI i) (b := nI (acs t k)) ht hnb u2.1 u3
        refine zT.ie (nI_nneg (by omega)) (zT.gu (inb_n (by omega) (by decide)) ?_)
        rw [ai_n _ _ (by omega)]
        rcases qat_cases Q' (oc t y) with ⟨g1, g2⟩ | ⟨g1, g2⟩
        · have ey : xi Q' t (qat Q' (oc t y)) = y := by unfold xi; rw [g2, oc_at ht (by omega)]
          have e7 := (u4 _ g1).2.1
          have hdl := u2.2.2.dle g1
          rw [ey] at e7
          rw [if_pos g1] at hput
          rw [e7]
          refine zT.it (nI_pos' (by omega)) (hj21 _ ⟨hE3, Q', es ++ [qat Q' (oc t y)], hbk _ ?_, hc, hiQ', hT'⟩)
          show (match qput Q' (oc t y) (nI i) (nI (acs t k)) (Q'.2.2.2.2 i + 1) with
            | none => none
            | some (m, Q2) => bacts [] i Q2 (es ++ [m])) = _
          rw [hput]
          rfl
        · rw [if_neg (by omega)] at hput
          rw [u5 y hyl g2]
          have hq := qput_sp hput u2 (Or.inr ⟨i, hiQ', rfl, rfl⟩)
          have hmore := one_few ht hnb hq.2.1.1 (qput_all (R := onO a t) hput u3 ⟨y, hyl, rfl⟩)
          have hmore : Q'.1 + 1 ≤ 2 ^ a.2.1.1 := hmore
          have hxi : xi Q' t i = x := by unfold xi; rw [hc, oc_at ht (by omega)]
          have e7 := (u4 i hiQ').2.1
          rw [hxi] at e7
          refine zT.ie (by decide) (zT.gu (inb_n (by omega) (by decide)) ?_)
          rw [ai_n _ _ (by omega), e7, nI_1, sai_n _ _ _ (by omega)]
          refine zT.ltS ?_
          rw [show (24 : Int32) = nI 24 from rfl, nI_mulL, nI_add, sai_n _ _ _ (by omega)]
          refine zT.ltS ?_
          rw [show gi (si (si w 137 y (nI (Q'.2.2.2.2 i + 1))) 138 y (nI (24 * x + k))) 0 40 = gi w 0 40 from rfl, u1]
          refine zT.gu (inb_n (by omega) (by decide)) ?_
          rw [sai_n _ _ _ (by omega)]
          refine zT.ltS ?_
          rw [show gi (si (si (si w 137 y (nI (Q'.2.2.2.2 i + 1))) 138 y (nI (24 * x + k))) 139 Q'.1 (nI y)) 0 40 = gi w 0 40 from rfl, u1, nI_1]
          have hT2 := hT'.add ht hnb hiQ' (show k < 24 by omega) hyl g2 (by omega)
          rw [hxi] at hT2
          refine zT.ltS (hj21 _ ⟨(((hE3.wi (by simp [pT])).wi (by simp [pT])).wi (by simp [pT])).wi (by simp [pT]), _, es ++ [Q'.1], hbk _ ?_, (hq.1.2 i hiQ').1.trans hc, Nat.lt_succ_of_lt hiQ', hT2⟩)
          show (match qput Q' (oc t y) (nI i) (nI (acs t k)) (Q'.2.2.2.2 i + 1) with
            | none => none
            | some (m, Q2) => bacts [] i Q2 (es ++ [m])) = _
          rw [hput]
          rfl
      · rw [if_neg q] at hj21 ⊢
        exact zT.it (by decide) (hj21 _ ⟨hE3, Q', es, hb, hc, hiQ', hT'⟩)
  · intro j31 hj31
    rw [hMw.2.1.1.1, show (12 : Int32) = nI 12 from rfl, nI_rem (by omega) (by decide) (by decide)]
    refine zT.ite (fun c3 => ?_) (fun c3 => ?_)
    · rw [nI_leI (by omega) (by omega)] at c3
      refine hj31 _ ?_
      unfold nxt nxk
      rw [decide_eq_false (show ¬ k % 12 < a.2.1.1 by omega), Bool.false_and, if_neg (by decide)]
    · rw [nI_leI (by omega) (by omega)] at c3
      unfold f_M_nextOf
      rw [show (24 : Int32) = nI 24 from rfl, nI_mulL, nI_add]
      refine zT.bnE (a := nxt a t x k) ?_ (hj31 _ rfl)
      apply zT.eq
      refine zT.gu (inb_n (by omega) (by decide)) (zT.ret ?_)
      rw [ai_n _ _ (by omega)]
      exact (hLY.fr hE3 (fun j => rfl)) x k o2 (by omega) (by omega)
end Z84
