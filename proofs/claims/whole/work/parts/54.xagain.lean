-- again in the class
section Z54
def pct : Nat → Nat → Bool := fun o j => decide (300 ≤ o) && decide (o < 312) && j == 5
theorem x_countIn {n d : Nat} {s : ZSt} {c : Nat → Nat} (hn : 100 < n) (hd : d < 4096) (hc : ∀ b, b < 12 → gi s (300 + b) 5 = nI (c b)) : zT (f_T_countIn n (nI d) s) (fun t => zE pct s t ∧ ∀ b, b < 12 → gi t (300 + b) 5 = nI (c b + (d.testBit b).toNat)) := by
  unfold f_T_countIn
  refine zT.cnt 12 (fun k x => x.1 = nI k ∧ zE pct s x.2 ∧ (∀ b, b < k → gi x.2 (300 + b) 5 = nI (c b + (d.testBit b).toNat)) ∧ ∀ b, k ≤ b → b < 12 → gi x.2 (300 + b) 5 = nI (c b)) (by omega) ⟨rfl, zE.refl _ _, fun t ht => absurd ht (Nat.not_lt_zero _), fun b _ hb => hc b hb⟩ ?_
  rintro j k ⟨_, u⟩ hk ⟨rfl, hE, g1, g2⟩ hj
  dsimp only at *
  refine zT.ite (fun c1 => ?_) (fun c1 => ?_)
  · rw [show (12 : Int32) = nI 12 from rfl, nI_leI (by omega) (by omega)] at c1
    have e : k = 12 := by omega
    subst e
    exact zT.ret ⟨hE, g1⟩
  · rw [show (12 : Int32) = nI 12 from rfl, nI_leI (by omega) (by omega)] at c1
    refine zT.gu (inb_n (by omega) (by decide)) ?_
    rw [ra_b (by omega), g2 k (Nat.le_refl _) (by omega), bit_n (by omega) (by omega), nI_add]
    refine zT.ltS ?_
    rw [nI_1]
    refine zT.ltS ?_
    refine hj (by omega) _ ⟨rfl, hE.wi (by simp [pct] <;> omega), fun b hb => ?_, fun b h1 h2 => ?_⟩
    · rw [gi_i]
      by_cases e : b = k
      · rw [if_pos ⟨by omega, rfl⟩, e]
      · rw [if_neg (by omega)]; exact g1 b (by omega)
    · rw [gi_i, if_neg (by omega)]; exact g2 b (by omega) h2
def pg8 : Nat → Nat → Bool := fun o j => (o == 1 && (j == 8 || j == 9 || j == 11)) || o == 210
def pgx : Nat → Nat → Bool := fun o j => (o == 1 && (j == 8 || j == 9 || j == 11)) || o == 210 || (decide (300 ≤ o) && decide (o < 312) && (j == 4 || j == 5)) || (decide (500 ≤ o) && decide (o < 506) && (j == 1 || j == 3)) || (o == 201 && j == 5)
theorem bck_d (R : ZRd) (S : ZS) (m r : Nat) : (bck R S m).2.2.1 r = if r < m then S.2.2.1 r else 0 := rfl
theorem bck_s (R : ZRd) (S : ZS) (m r : Nat) : (bck R S m).2.2.2.1 r = if r < m then S.2.2.2.1 r else R.2.1 r := rfl
set_option maxHeartbeats 2000000 in
theorem x_again {n T : Nat} {s : ZSt} {a : ZA} (x : Int32) (hn : 100 < n) (hT : T < 2 ^ 29) (h : XX s T a) : zT (f_X_again n x s) (xP (sAgain x a).1 (T + 1) (sAgain x a).2 s) := by
  have hnb := h.1.2.2.2.1
  have hnr := h.1.2.2.2.2.2.1
  have no : zT (some (false, s)) (xP false (T + 1) a s) := zT.ret ⟨rfl, zE.refl _ _, h.mono (by omega)⟩
  obtain ⟨hA, ⟨st, hst, hB⟩, hO⟩ := id h
  generalize hr : sAgain x a = r
  unfold sAgain at hr
  unfold f_X_again
  rcases nI_cases x 3 (by decide) with ⟨i, hi, rfl⟩ | q | q
  · rw [if_pos (inb_n hi (by decide)), nI_clamp (by omega)] at hr
    refine zT.ie (nI_nneg (by omega)) (zT.ie (show ¬ nI 3 ≤ nI i from nI_ge hi (by decide)) ?_)
    refine zT.gu (inb_n hi (by decide)) ?_
    rw [ra_k (by omega)]
    obtain ⟨k1, k2, k3, k4, ⟨k5, k6, k7⟩, ⟨k8, tot0, k9, k10, k11⟩, k12⟩ := id hO
    have hKi := k12 i hi
    cases hK : a.2.2.2.2 i with
    | none =>
      rw [hK] at hr hKi
      have hKi : gi s (510 + i) 0 = 0 := hKi
      subst hr
      rw [hKi]
      exact zT.i00 no
    | some w =>
      obtain ⟨S, m⟩ := w
      rw [hK] at hr hKi
      have hr : (true, putS a (bck a.2.2.1 S m)) = r := hr
      obtain ⟨q0, q1, q2, ⟨tot, q3, q4, q5⟩, q6, q7, q8⟩ := hKi
      obtain ⟨⟨kk1, kk2, kk3, kk4⟩, kk5⟩ := hA.2.2.2.2.2.2.2.2 i S m hi hK
      have hok := okA_bck hA hi hK
      have h12 := pw_12 hnb
      rw [q0]
      refine zT.i10 (zT.ltS ?_)
      rw [show gi (sl s 1 8 (gl s (510 + i) 1)) (510 + i) 2 = gi s (510 + i) 2 from rfl]
      refine zT.ltS ?_
      rw [show gi (si (sl s 1 8 (gl s (510 + i) 1)) 1 9 (gi s (510 + i) 2)) (510 + i) 3 = gi s (510 + i) 3 from by rw [gi_i, if_neg (by omega), gi_l]]
      refine zT.ltS ?_
      rw [show 510 + i + 10 = 520 + i by omega, show 510 + i + 15 = 525 + i by omega, show 510 + i + 20 = 530 + i by omega, show 510 + i + 25 = 535 + i by omega, show (60 : Int32).toNatClampNeg = 60 from rfl, q1, q2, q4]
      refine zT.ln (fun s8 hs8 => ?_)
      have hE8 : zE pg8 s s8 := by
        rw [hs8]
        refine zE.trans (t := si (si (sl s 1 8 (lN (en S.1))) 1 9 S.2.2.2.2.1) 1 11 (nI tot)) ?_ ?_
        · exact (((zE.refl _ _).wl (by simp [pg8])).wi (by simp [pg8])).wi (by simp [pg8])
        · intro o j e
          have : ¬ o = 210 := fun w => by simp [pg8, w] at e
          exact ⟨by rw [gi_c, if_neg (fun w => this w.1)], gl_c _ _ _ _ _ _⟩
      have f1 : gl s8 1 8 = lN (en S.1) := by rw [hs8]; simp [gl_c, gl_i, gl_l]
      have f2 : gi s8 1 9 = S.2.2.2.2.1 := by rw [hs8]; simp [gi_c, gi_i]
      have f3 : gi s8 1 11 = nI tot := by rw [hs8]; simp [gi_c, gi_i]
      have f5 : XLg s8 210 tot S.2.2.2.2.2 := by
        refine ⟨q5.1, fun k hk => ?_⟩
        rw [hs8, gi_c, if_pos ⟨rfl, Nat.mod_lt _ (by decide)⟩, ← q5.2 k hk]
        rw [gi_i, if_neg (by omega), gi_i, if_neg (by omega), gi_l]
      clear hs8
      -- what stays: the log, the hour, the tables
      refine zT.cnt 12 (fun k x => x.1 = nI k ∧ zE (fun o j => decide (300 ≤ o) && decide (o < 312) && (j == 4 || j == 5)) s8 x.2 ∧ ∀ b, b < k → gi x.2 (300 + b) 4 = S.2.1 b ∧ gi x.2 (300 + b) 5 = nI 0) (by omega) ⟨rfl, zE.refl _ _, fun t ht => absurd ht (Nat.not_lt_zero _)⟩ ?_
      rintro j k ⟨_, u⟩ hk ⟨rfl, hE, g1⟩ hj
      dsimp only at *
      refine zT.ite (fun c1 => ?_) (fun c1 => ?_)
      · rw [show (12 : Int32) = nI 12 from rfl, nI_leI (by omega) (by omega)] at c1
        have e : k = 12 := by omega
        subst e
        clear hj
        have hE9 : zE pgx s u := (hE8.mono (fun o j e => by simp [pgx, pg8] at *; omega)).trans (hE.mono (fun o j e => by simp [pgx] at *; omega))
        have f1 : gl u 1 8 = lN (en S.1) := (hE.l (by simp)).trans f1
        have f2 : gi u 1 9 = S.2.2.2.2.1 := (hE.i (by simp)).trans f2
        have f3 : gi u 1 11 = nI tot := (hE.i (by simp)).trans f3
        have f5 : XLg u 210 tot S.2.2.2.2.2 := f5.on (fun j => hE.i (by simp))
        refine zT.cnt 6 (fun k x => k ≤ a.2.2.1.1 ∧ x.1 = nI k ∧ zE (fun o j => (decide (300 ≤ o) && decide (o < 312) && j == 5) || (decide (500 ≤ o) && decide (o < 506) && (j == 1 || j == 3))) u x.2 ∧ (∀ b, b < 12 → gi x.2 (300 + b) 5 = nI (cntr (bck a.2.2.1 S m).2.2.1 b k)) ∧ (∀ r, r < k → gi x.2 (500 + r) 1 = nI ((bck a.2.2.1 S m).2.2.2.1 r) ∧ gi x.2 (500 + r) 3 = nI ((bck a.2.2.1 S m).2.2.1 r)) ∧ ∀ r, k ≤ r → r < 6 → gi x.2 (500 + r) 3 = gi s (500 + r) 3) (by omega) ⟨Nat.zero_le _, rfl, zE.refl _ _, fun b hb => (g1 b hb).2, fun t ht => absurd ht (Nat.not_lt_zero _), fun r _ hr => (hE.i (by simp <;> omega)).trans (hE8.i (by simp [pg8] <;> omega))⟩ ?_
        rintro j k ⟨_, v⟩ hk ⟨hkr, rfl, hE2, g2, g3, g4⟩ hj
        dsimp only at *
        have hEv : zE pgx s v := hE9.trans (hE2.mono (fun o j e => by simp [pgx] at *; omega))
        rw [hEv.i (show pgx 1 7 = false by simp [pgx]), k5]
        refine zT.ite (fun c1 => ?_) (fun c1 => ?_)
        · rw [nI_leI (by omega) (by omega)] at c1
          have e : k = a.2.2.1.1 := by omega
          subst e
          clear hj
          unfold f_T_forget
          refine zT.bi (zT.ltS (zT.ret ?_))
          obtain ⟨⟨⟨a1, a2, a3⟩, ⟨b1, b2, b3⟩, c⟩, d, e, g, l⟩ := hB
          have hE5 : zE pgx s (si v 201 5 (gi v 201 5 + 1)) := hEv.wi (by simp [pgx])
          have hEw : zE (fun o j => o == 201 && j == 5) v (si v 201 5 (gi v 201 5 + 1)) := (zE.refl _ _).wi (by simp)
          have hc5 : gi v 201 5 = nI st := (hE2.i (by simp)).trans ((hE.i (by simp)).trans ((hE8.i (by simp [pg8])).trans b1))
          generalize hw : si v 201 5 (gi v 201 5 + 1) = w at hE5 hEw
          have hw5 : gi w 201 5 = nI (st + 1) := by rw [← hw, gi_i, if_pos ⟨rfl, rfl⟩, hc5, nI_1]
          clear hw
          subst hr
          refine zT.ret ⟨rfl, hE5.mono (fun o j e => by simp [pXo, pgx] at *; omega), hok, ⟨st + 1, by omega, ⟨⟨⟨?_, a2, fun b hb => ?_⟩, ⟨hw5, by omega, fun i hi => ?_⟩, fun t ht => ?_⟩, fun b hb => ?_, fun b hb => ?_, ?_, kk1⟩⟩, ?_⟩
          · exact (hE5.i (by simp [pgx])).trans a1
          · obtain ⟨c1, c2, c3, c4, c5, c6, c7, c8⟩ := a3 b hb
            have hb : b < a.2.1.1 := hb
            refine ⟨c1.on (hE5.i (by simp [pgx] <;> omega)) (fun j => hE5.i (by simp [pgx] <;> omega)), c2.on (hE5.i (by simp [pgx] <;> omega)) (fun j => hE5.i (by simp [pgx] <;> omega)), c3, c4, (hE5.i (by simp [pgx] <;> omega)).trans c5, c6, (hEw.i (by simp <;> omega)).trans (g2 b (by omega)), ?_⟩
            show cntr (bck a.2.2.1 S m).2.2.1 b a.2.2.1.1 ≤ 6
            have := cntr_le (bck a.2.2.1 S m).2.2.1 b a.2.2.1.1
            omega
          · obtain ⟨x, z1, z2, z3⟩ := b3 i hi
            exact ⟨x, by omega, (hE5.i (by simp [pgx])).trans z2, fun e => by omega⟩
          · exact ⟨(hE5.i (by simp [pgx])).trans (c t ht).1, (c t ht).2⟩
          · have hb : b < a.2.1.1 := hb
            exact (hE5.i (by simp [pgx] <;> omega)).trans (d b hb)
          · exact (hEw.i (by simp <;> omega)).trans ((hE2.i (by simp <;> omega)).trans (g1 b hb).1)
          · exact (hEw.l (by simp)).trans ((hE2.l (by simp)).trans f1)
          · have hbit : ∀ b, a.2.1.1 ≤ b → cntr (bck a.2.2.1 S m).2.2.1 b a.2.2.1.1 = 0 := fun b hb => by
              have : ∀ k, k ≤ a.2.2.1.1 → cntr (bck a.2.2.1 S m).2.2.1 b k = 0 := by
                intro k
                induction k with
                | zero => intro _; rfl
                | succ k ih =>
                  intro hk
                  show cntr (bck a.2.2.1 S m).2.2.1 b k + (((bck a.2.2.1 S m).2.2.1 k).testBit b).toNat = 0
                  rw [ih (by omega)]
                  have h1 : (bck a.2.2.1 S m).2.2.1 k < 2 ^ a.2.1.1 := (hok.2.2.2.2.2.2.2.1.2.2.1 k hk).1
                  rw [Nat.testBit_lt_two_pow (Nat.lt_of_lt_of_le h1 (Nat.pow_le_pow_right (by decide) hb))]
                  rfl
              exact this _ (Nat.le_refl _)
            refine ⟨k1.fr hE5 ⟨by simp [pgx], fun _ => by simp [pgx]⟩, k2.fr hE5 ⟨by simp [pgx], fun _ => by simp [pgx]⟩, k3.fr hE5 ⟨by simp [pgx], fun _ => by simp [pgx]⟩, fun b h1 h2 => ⟨(hE5.i (by simp [pgx] <;> omega)).trans (k4 b h1 h2).1, ?_⟩, ⟨(hE5.i (by simp [pgx])).trans k5, fun r hr => ?_, fun r h1 h2 => ?_⟩, ⟨(hEw.i (by simp)).trans ((hE2.i (by simp)).trans f2), tot, by omega, (hEw.i (by simp)).trans ((hE2.i (by simp)).trans f3), (f5.on (fun j => hE2.i (by simp))).on (fun j => hEw.i (by simp))⟩, ?_⟩
            · rw [hEw.i (by simp <;> omega), g2 b h2, hbit b h1]; rfl
            · obtain ⟨w1, w2, w3, w4⟩ := k6 r hr
              have hr : r < a.2.2.1.1 := hr
              exact ⟨(hE5.i (by simp [pgx] <;> omega)).trans w1, (hEw.i (by simp <;> omega)).trans (g3 r hr).1, (hE5.i (by simp [pgx] <;> omega)).trans w3, (hEw.i (by simp <;> omega)).trans (g3 r hr).2⟩
            · rw [hEw.i (by simp <;> omega), g4 r h1 h2]
              exact k7 r h1 h2
            · refine XKs.fr (fun i hi => ?_) hE5 (fun o j h1 h2 => by simp [pgx] <;> omega)
              have := (h.mono (show T ≤ T + 1 by omega)).2.2.2.2.2.2.2.2 i hi
              exact this
        · rw [nI_leI (by omega) (by omega)] at c1
          have e6 : gi v (510 + i) 4 = nI m := (hEv.i (by simp [pgx] <;> omega)).trans q6
          rw [e6]
          refine zT.ltS (zT.gu (inb_n (by omega) (by decide)) ?_)
          have hc16 : ((if nI k < nI m then (0 : Int32) else 1) = 0) ↔ k < m := by
            have hl : nI k < nI m ↔ k < m := nI_ltI (by omega) (by omega)
            by_cases q : k < m
            · rw [if_pos (hl.mpr q)]; exact ⟨fun _ => q, fun _ => rfl⟩
            · rw [if_neg (fun w => q (hl.mp w))]; exact ⟨fun w => absurd w (by decide), fun w => absurd w q⟩
          rw [ra_r (by omega)]
          refine zT.jnQ (fun w => w = nI ((bck a.2.2.1 S m).2.2.2.1 k)) ?_ ?_
          · intro y hy
            refine zT.ltS (zT.jnQ (fun w => w = nI ((bck a.2.2.1 S m).2.2.1 k)) ?_ ?_)
            · intro z hz
              refine zT.ltS ?_
              rw [gi_i, if_pos ⟨rfl, rfl⟩, hz]
              have hdk := (hok.2.2.2.2.2.2.2.1.2.2.1 k (show k < (putS a (bck a.2.2.1 S m)).2.2.1.1 from by show k < a.2.2.1.1; omega)).1
              refine zT.bnT (x_countIn (c := fun b => cntr (bck a.2.2.1 S m).2.2.1 b k) (by omega) (Nat.lt_of_lt_of_le hdk h12) (fun b hb => ?_)) ?_
              · rw [gi_i, if_neg (by omega), gi_i, if_neg (by omega)]; exact g2 b hb
              · rintro w ⟨hE3, g5⟩
                rw [nI_1]
                refine zT.ltS ?_
                refine hj (by omega) _ ⟨by omega, rfl, ((hE2.wi (by simp <;> omega)).wi (by simp <;> omega)).trans (hE3.mono (fun o j e => by simp [pct] at *; omega)), g5, fun r hr => ?_, fun r h1 h2 => ?_⟩
                · rw [hE3.i (by simp [pct] <;> omega), hE3.i (by simp [pct] <;> omega), gi_i, if_neg (by omega), gi_i, gi_i]
                  by_cases e : r = k
                  · rw [if_pos ⟨by omega, rfl⟩, if_pos ⟨by omega, rfl⟩, e]; exact ⟨hy, rfl⟩
                  · rw [if_neg (by omega), if_neg (by omega), gi_i, if_neg (by omega)]; exact g3 r (by omega)
                · rw [hE3.i (by simp [pct] <;> omega), gi_i, if_neg (by omega), gi_i, if_neg (by omega)]
                  exact g4 r (by omega) h2
            · intro j24 hj24
              by_cases q : k < m
              · refine zT.it (hc16.mpr q) (hj24 _ ?_)
                rw [ai_n _ _ (by omega), gi_i, if_neg (by omega), hEv.i (by simp [pgx] <;> omega), (q8 k q).2, bck_d, if_pos q]
              · refine zT.ie (fun w => q (hc16.mp w)) (hj24 _ ?_)
                rw [bck_d, if_neg q]; rfl
          · intro j26 hj26
            by_cases q : k < m
            · refine zT.it (hc16.mpr q) (hj26 _ ?_)
              rw [ai_n _ _ (by omega), hEv.i (by simp [pgx] <;> omega), (q8 k q).1, bck_s, if_pos q]
            · refine zT.ie (fun w => q (hc16.mp w)) (hj26 _ ?_)
              rw [bck_s, if_neg q, hEv.i (by simp [pgx] <;> omega)]
              exact (k6 k (by omega)).1
      · rw [show (12 : Int32) = nI 12 from rfl, nI_leI (by omega) (by omega)] at c1
        refine zT.gu (inb_n (by omega) (by decide)) ?_
        have e7 : gi u (525 + i) k = S.2.1 k := (hE.i (by simp <;> omega)).trans ((hE8.i (by simp [pg8] <;> omega)).trans (q7 k (by omega)))
        rw [ra_b (by omega), ai_n _ _ (by omega), e7]
        refine zT.ltS (zT.ltS ?_)
        rw [nI_1]
        refine zT.ltS ?_
        refine hj (by omega) _ ⟨rfl, (hE.wi (by simp <;> omega)).wi (by simp <;> omega), fun b hb => ?_⟩
        by_cases e : b = k
        · subst e
          exact ⟨by rw [gi_i, if_neg (by omega), gi_i, if_pos ⟨rfl, rfl⟩], by rw [gi_i, if_pos ⟨rfl, rfl⟩]; rfl⟩
        · rw [gi_i, if_neg (by omega), gi_i, if_neg (by omega), gi_i, if_neg (by omega), gi_i, if_neg (by omega)]
          exact g1 b (by omega)
  · rw [if_neg (fun w => absurd q (by obtain ⟨k, hk, rfl⟩ := (inb_iff (by omega)).mp w; exact nI_nneg (by omega)))] at hr
    subst hr
    exact zT.it q no
  · rw [if_neg (fun w => absurd q (by obtain ⟨k, hk, rfl⟩ := (inb_iff (by omega)).mp w; exact nI_ge hk (by decide)))] at hr
    subst hr
    refine zT.ite (fun _ => no) (fun _ => zT.it q no)
end Z54
