-- readers in the class; of, count, row, log
section Z37
theorem XO.mono {s : ZSt} {T T' : Nat} {a : ZA} (h : XO s T a) (hT : T ≤ T') : XO s T' a := by
  obtain ⟨q1, q2, q3, q4, q5, ⟨q6, tot, q7, q8⟩, q9⟩ := h
  refine ⟨q1, q2, q3, q4, q5, ⟨q6, tot, by omega, q8⟩, fun i hi => ?_⟩
  have := q9 i hi
  revert this
  cases a.2.2.2.2 i with
  | none => exact id
  | some w =>
    obtain ⟨S, m⟩ := w
    rintro ⟨a, b, c, ⟨tot, d1, d2⟩, e⟩
    exact ⟨a, b, c, ⟨tot, by omega, d2⟩, e⟩
theorem afd_same {a : ZA} {r b : Nat} (h : (a.2.2.2.1.2.2.1 r).testBit b = true) : putS a (afd a r b) = a := by
  unfold putS afd
  rw [or_same h, ups_same]
theorem XO.afd {s t : ZSt} {T : Nat} {a : ZA} (hA : okA a) (h : XO s T a) {r b : Nat} (hb : b < a.2.1.1) (hE : zE (fun o j => (o == 500 + r && j == 3) || (o == 300 + b && j == 5) || (o == 201 && j == 5)) s t) (h3 : gi t (500 + r) 3 = nI (a.2.2.2.1.2.2.1 r ||| 2 ^ b)) (hr : r < a.2.2.1.1) : XO t T (putS a (afd a r b)) := by
  have hnb := hA.2.2.2.1
  have hnr := hA.2.2.2.2.2.1
  obtain ⟨k1, k2, k3, k4, k5, k6, k7⟩ := h
  refine ⟨k1.fr hE ⟨by simp <;> omega, fun _ => by simp <;> omega⟩, k2.fr hE ⟨by simp <;> omega, fun _ => by simp <;> omega⟩, k3.fr hE ⟨by simp <;> omega, fun _ => by simp <;> omega⟩, fun q q1 q2 => ?_, ⟨(hE.i (by simp <;> omega)).trans k5.1, fun q hq => ?_, fun q q1 q2 => ?_⟩, k6.fr hE ⟨by simp <;> omega, by simp <;> omega, fun _ => by simp <;> omega⟩, XKs.fr k7 hE (fun o j h1 h2 => by simp <;> omega)⟩
  · have q1 : a.2.1.1 ≤ q := q1
    exact ⟨(hE.i (by simp <;> omega)).trans (k4 q q1 q2).1, (hE.i (by simp <;> omega)).trans (k4 q q1 q2).2⟩
  · obtain ⟨c1, c2, c3, c4⟩ := k5.2.1 q hq
    refine ⟨(hE.i (by simp <;> omega)).trans c1, (hE.i (by simp <;> omega)).trans c2, (hE.i (by simp <;> omega)).trans c3, ?_⟩
    show gi t (500 + q) 3 = nI (ups a.2.2.2.1.2.2.1 r (a.2.2.2.1.2.2.1 r ||| 2 ^ b) q)
    rw [ups_i]
    by_cases e : q = r
    · rw [if_pos e, e]; exact h3
    · rw [if_neg e]; exact (hE.i (by simp <;> omega)).trans c4
  · have q1 : a.2.2.1.1 ≤ q := q1
    exact (hE.i (by simp <;> omega)).trans (k5.2.2 q q1 q2)
theorem pmb_xf {s t : ZSt} (h : zE pmb s t) : zE pxf s t := h.mono (fun o j e => by simp [pmb, pxf] at *; omega)
theorem pmb_xk2 {s t : ZSt} (h : zE pmb s t) : zE pxk s t := pmb_xk h
set_option maxHeartbeats 1000000 in
theorem x_finish {n r b T : Nat} {s : ZSt} {a : ZA} (hn : 60 < n) (h : XX s T a) (hT : T < 2 ^ 29) (hr : r < a.2.2.1.1) (hb : b < a.2.1.1) : zT (f_X_finishBook n (500 + r) (nI b) s) (fun t => zE pxf s t ∧ XX t (T + 1) (afin a r b)) := by
  have hnb := h.1.2.2.2.1
  have hnr := h.1.2.2.2.2.2.1
  obtain ⟨hA, ⟨st, hst, hB⟩, hO⟩ := id h
  have ht := (hA.2.2.2.2.2.2.2.1.2.2.1 r hr).2
  have hF := hA.2.2.2.2.2.2.2.1.1
  have hp : 2 ^ a.2.1.1 ≤ 4096 := Nat.pow_le_pow_right (n := 2) (by decide) hnb
  have hd := (hA.2.2.2.2.2.2.2.1.2.2.1 r hr).1
  have hRr := hO.2.2.2.2.1.2.1 r hr
  unfold f_X_finishBook
  refine zT.gu (zb_R r (by omega)) ?_
  refine zT.jnQ (fun x1 => zE pxf s x1 ∧ ∃ st', st' ≤ T + 2 ∧ XB x1 st' (putS a (afd a r b)) ∧ XO x1 T (putS a (afd a r b))) ?_ ?_
  · rintro x1 ⟨hE, st', hst', hB', hO'⟩
    have hA' := okA_afd hA (r := r) hb
    have hsit : gi x1 (500 + r) 1 = nI (a.2.2.2.1.2.2.2.1 r) := (hO'.2.2.2.2.1.2.1 r hr).2.1
    have hnow : gl x1 1 8 = lN (en a.2.2.2.1.1) := hB'.2.2.2.1
    rw [hnow, hsit]
    refine zT.bnT (t_settled hn hB'.1 ht (hF.S hnb)) ?_
    rintro ⟨_, u⟩ ⟨rfl, hE2, hK⟩
    refine zT.ltS (zT.ret ⟨(hE.trans (pmb_xf hE2)).wl rfl, ?_⟩)
    have hB2 := XA.now (XA.fr hB' hE2 hK) (up_ok (D := aD (putS a (afd a r b))) (t := a.2.2.2.1.2.2.2.1 r) hF)
    exact XX.put2 (T := T + 1) hA' hst' (hO'.mono (by omega)) ((pmb_xk hE2).wl rfl) (okA_afin hA hb) hB2
  · intro j4 hj
    rw [hRr.2.2.2]
    refine zT.ite (fun c => ?_) (fun c => ?_)
    · rw [bit0 (by omega) (by omega)] at c
      rw [shI_n (by omega), nI_or]
      refine zT.ltS (zT.gu (inb_n (by omega) (by decide)) ?_)
      rw [ra_b (by omega)]
      refine zT.ltS ?_
      unfold f_T_forget
      refine zT.bi (zT.ltS (zT.ret ?_))
      have e1 : gi (si s (500 + r) 3 (nI (a.2.2.2.1.2.2.1 r ||| 2 ^ b))) (300 + b) 5 = gi s (300 + b) 5 := by rw [gi_i, if_neg (by omega)]
      have e2 : gi (si (si s (500 + r) 3 (nI (a.2.2.2.1.2.2.1 r ||| 2 ^ b))) (300 + b) 5 (gi s (300 + b) 5 + 1)) 201 5 = nI st := by
        rw [gi_i, if_neg (by omega), gi_i, if_neg (by omega)]; exact hB.1.2.1.1
      rw [e1, e2]
      have hE : zE (fun o j => (o == 500 + r && j == 3) || (o == 300 + b && j == 5) || (o == 201 && j == 5)) s (si (si (si s (500 + r) 3 (nI (a.2.2.2.1.2.2.1 r ||| 2 ^ b))) (300 + b) 5 (gi s (300 + b) 5 + 1)) 201 5 (nI st + 1)) := (((zE.refl _ _).wi (by simp)).wi (by simp)).wi (by simp)
      refine hj _ ⟨hE.mono (fun o j e => by simp [pxf] at *; omega), st + 1, by omega, XB.afd hA hB (by omega) hr hb c, hO.afd hA hb hE ?_ hr⟩
      rw [gi_i, if_neg (by omega), gi_i, if_neg (by omega), gi_i, if_pos ⟨rfl, rfl⟩]
    · rw [bit0 (by omega) (by omega)] at c
      have c : (a.2.2.2.1.2.2.1 r).testBit b = true := by
        cases q : (a.2.2.2.1.2.2.1 r).testBit b
        · exact absurd q c
        · rfl
      have es := afd_same c
      exact hj _ ⟨zE.refl _ _, st, by omega, by rw [es]; exact hB, by rw [es]; exact hO⟩
theorem x_read {n T : Nat} {s : ZSt} {a : ZA} (x y : Int32) (hn : 60 < n) (hT : T < 2 ^ 29) (h : XX s T a) : zT (f_X_read n x y s) (xP (sRead x y a).1 (T + 1) (sRead x y a).2 s) := by
  have hnb := h.1.2.2.2.1
  have hnr := h.1.2.2.2.2.2.1
  obtain ⟨hA, ⟨st, hst, hB⟩, hO⟩ := id h
  generalize hr : sRead x y a = r
  unfold sRead at hr
  unfold f_X_read
  rw [inb_xReader hO.2.2.2.2.1.1 hnr, inb_has hB.1.1.1 hnb]
  have no : ∀ v, zT (some ((v : Int32), s)) (xP v (T + 1) a s) := fun v => zT.ret ⟨rfl, zE.refl _ _, h.mono (by omega)⟩
  refine zT.ite (fun c1 => ?_) (fun c1 => ?_)
  · refine zT.ite (fun c2 => ?_) (fun c2 => ?_)
    · rw [if_pos ⟨c1, c2⟩] at hr
      obtain ⟨k, hk, rfl⟩ := (inb_iff (by omega)).mp c1
      obtain ⟨b, hb, rfl⟩ := (inb_iff (by omega)).mp c2
      rw [nI_clamp (by omega), nI_clamp (by omega)] at hr
      have ht := (hA.2.2.2.2.2.2.2.1.2.2.1 k hk).2
      have hlt := okS_t hB.S ht
      refine zT.gu (inb_n (by omega) (by decide)) ?_
      rw [ra_r (by omega), ra_b (by omega), (hO.2.2.2.2.1.2.1 k hk).2.1, hB.2.2.2.1, on_e hB.S ht]
      refine zT.ite (fun c3 => ?_) (fun c3 => ?_)
      · rw [bit0 (by omega) (by omega)] at c3
        rw [if_neg (by rw [c3]; decide)] at hr
        subst hr
        exact no _
      · rw [bit0 (by omega) (by omega)] at c3
        rw [if_pos (by simpa using c3)] at hr
        subst hr
        refine zT.bnT (x_finish hn h hT hk hb) ?_
        rintro u ⟨hE, hX⟩
        refine zT.gu (inb_n (by omega) (by decide)) (zT.ret ⟨?_, pxf_xo hE, hX⟩)
        obtain ⟨_, ⟨_, _, hB2⟩, _⟩ := hX
        exact (hB2.1.1.2.2 b hb).2.2.2.2.2.2.1
    · rw [if_neg (fun q => c2 q.2)] at hr
      subst hr
      exact no _
  · rw [if_neg (fun q => c1 q.1)] at hr
    subst hr
    exact no _
-- of
def sOf (x w : Int32) (a : ZA) : Option Int32 := if inb x a.2.2.1.1 = true then (if w = 0 then some (nI (a.2.2.2.1.2.2.2.1 x.toNatClampNeg)) else if w = 1 then some (nI (a.2.2.1.2.2 x.toNatClampNeg)) else if w = 2 then some (nI (a.2.2.2.1.2.2.1 x.toNatClampNeg)) else if w = 3 then some (nI (ndf (a.2.2.1.2.2 x.toNatClampNeg) (a.2.2.2.1.2.2.1 x.toNatClampNeg))) else none) else none
theorem m_leftOf {s : ZSt} {a : ZA} (h : MA s a) {r : Nat} (hr : r < a.2.2.1.1) : f_M_leftOf (nI r) s = some (nI (ndf (a.2.2.1.2.2 r) (a.2.2.2.1.2.2.1 r))) := by
  have hnr := h.1.2.2.2.2.2.1
  apply zT.eq
  unfold f_M_leftOf
  refine zT.gu (inb_n (by omega) (by decide)) (zT.ret ?_)
  rw [ai_n _ _ (by omega), ai_n _ _ (by omega), (h.2.2.2.2.2.1 r hr).2.2, (h.2.1.1.2.2.2.2.1 r hr).1, nI_andn]
theorem x_left {s : ZSt} {T : Nat} {a : ZA} (hA : okA a) (h : XO s T a) {r : Nat} (hr : r < a.2.2.1.1) : f_R_left (500 + r) s = some (nI (ndf (a.2.2.1.2.2 r) (a.2.2.2.1.2.2.1 r))) := by
  have hnr := hA.2.2.2.2.2.1
  obtain ⟨_, _, q3, q4⟩ := h.2.2.2.2.1.2.1 r hr
  apply zT.eq
  unfold f_R_left
  refine zT.gu (zb_R r (by omega)) (zT.ret ?_)
  rw [q3, q4, nI_andn]
theorem m_of {s : ZSt} {a : ZA} (x w : Int32) (h : MA s a) : zT (f_M_of x w s) (mPT (sOf x w a) a s) := by
  have hnr := h.1.2.2.2.2.2.1
  generalize hr : sOf x w a = r
  unfold sOf at hr
  unfold f_M_of
  refine zT.ln (fun s1 hs1 => ?_)
  obtain ⟨hz, hE0, h00⟩ := mz h hs1
  clear hs1
  have hC := hz.2.1
  rw [inb_isReader hC.1.2.2.1 hnr, in03]
  have ok : ∀ v, some v = r → zT (some (v, s1)) (mPT r a s) := fun v e => by
    subst e; exact zT.ret ⟨rfl, h00, hE0, hz⟩
  refine zT.jnQ (fun _ => none = r) (fun _ e => ?_) (fun j4 hj => ?_)
  · subst e
    refine zT.bnT (m_refuse hE0 hz) ?_
    rintro ⟨v, t⟩ q
    exact zT.ret q
  · refine zT.ite (fun c1 => ?_) (fun c1 => ?_)
    · rw [if_pos c1] at hr
      obtain ⟨k, hk, rfl⟩ := (inb_iff (by omega)).mp c1
      rw [nI_clamp (by omega)] at hr
      have hM := hz.2.2.2.2.2.1 k hk
      refine zT.ite (fun c2 => ?_) (fun c2 => ?_)
      · rw [decide_eq_true_eq] at c2
        refine zT.ite (fun q => ?_) (fun q => ?_)
        · rw [if_pos q] at hr
          refine zT.gu (inb_n (by omega) (by decide)) (ok _ ?_)
          rw [ai_n _ _ (by omega), hM.1]; exact hr
        rw [if_neg q] at hr
        refine zT.ite (fun q => ?_) (fun q => ?_)
        · rw [if_pos q] at hr
          refine zT.gu (inb_n (by omega) (by decide)) (ok _ ?_)
          rw [ai_n _ _ (by omega), hM.2.2]; exact hr
        rw [if_neg q] at hr
        refine zT.ite (fun q => ?_) (fun q => ?_)
        · rw [if_pos q] at hr
          refine zT.gu (inb_n (by omega) (by decide)) (ok _ ?_)
          rw [ai_n _ _ (by omega), (hC.1.2.2.2.2.1 k hk).1]; exact hr
        rw [if_neg q] at hr
        refine zT.bnE (m_leftOf hz hk) (ok _ ?_)
        rename_i q0 q1
        have e4 : w = 3 := by
          obtain ⟨v, hv, rfl⟩ : ∃ v, v < 4 ∧ w = nI v := by
            rcases nI_cases w 4 (by decide) with ⟨v, hv, rfl⟩ | e | e
            · exact ⟨v, hv, rfl⟩
            · exact absurd c2.1 (Int32.not_le.mpr e)
            · exact absurd (Int32.le_trans e c2.2) (by decide)
          rcases (show v = 0 ∨ v = 1 ∨ v = 2 ∨ v = 3 by omega) with rfl | rfl | rfl | rfl
          · exact absurd rfl q0
          · exact absurd rfl q1
          · exact absurd rfl q
          · rfl
        rw [if_pos e4] at hr
        exact hr
      · rw [decide_eq_true_eq] at c2
        refine hj () ?_
        rw [if_neg (fun e => c2 (by rw [e]; decide)), if_neg (fun e => c2 (by rw [e]; decide)), if_neg (fun e => c2 (by rw [e]; decide)), if_neg (fun e => c2 (by rw [e]; decide))] at hr
        exact hr
    · rw [if_neg c1] at hr
      exact hj () hr
theorem x_of {T : Nat} {s : ZSt} {a : ZA} (x w : Int32) (h : XX s T a) : zT (f_L_of x w s) (xPT (sOf x w a) T a s) := by
  have hnr := h.1.2.2.2.2.2.1
  obtain ⟨hA, ⟨st, hst, hB⟩, hO⟩ := id h
  generalize hr : sOf x w a = r
  unfold sOf at hr
  unfold f_L_of f_X_of
  rw [inb_xReader hO.2.2.2.2.1.1 hnr]
  refine zT.bi ?_
  refine zT.ite (fun c1 => ?_) (fun c1 => ?_)
  · rw [if_pos c1] at hr
    obtain ⟨k, hk, rfl⟩ := (inb_iff (by omega)).mp c1
    rw [nI_clamp (by omega)] at hr
    rw [ra_r (by omega)]
    obtain ⟨q1, q2, q3, q4⟩ := hO.2.2.2.2.1.2.1 k hk
    refine zT.gu (inb_n (by omega) (by decide)) ?_
    refine zT.ite (fun q => ?_) (fun q => ?_)
    · rw [if_pos q] at hr
      subst hr
      rw [q2]
      exact zT.ret (x_some _ (zE.refl _ _) h)
    rw [if_neg q] at hr
    refine zT.ite (fun q => ?_) (fun q => ?_)
    · rw [if_pos q] at hr
      subst hr
      rw [q3]
      exact zT.ret (x_some _ (zE.refl _ _) h)
    rw [if_neg q] at hr
    refine zT.ite (fun q => ?_) (fun q => ?_)
    · rw [if_pos q] at hr
      subst hr
      rw [q4]
      exact zT.ret (x_some _ (zE.refl _ _) h)
    rw [if_neg q] at hr
    refine zT.ite (fun q => ?_) (fun q => ?_)
    · rw [if_pos q] at hr
      subst hr
      exact zT.bnE (x_left hA hO hk) (zT.ret (x_some _ (zE.refl _ _) h))
    rw [if_neg q] at hr
    subst hr
    exact zT.ret (x_none h)
  · rw [if_neg c1] at hr
    subst hr
    exact zT.ret (x_none h)
-- row
def sRow (x : Int32) (a : ZA) : Option Int32 := if inb x a.1.2.2.length = true then some (lF a.1.2.2 x.toNatClampNeg) else none
theorem m_row {s : ZSt} {a : ZA} (x : Int32) (h : MA s a) : zT (f_M_row x s) (mPT (sRow x a) a s) := by
  have hl := h.1.2.2.1
  generalize hr : sRow x a = r
  unfold sRow at hr
  unfold f_M_row
  refine zT.ln (fun s1 hs1 => ?_)
  obtain ⟨hz, hE0, h00⟩ := mz h hs1
  clear hs1
  have e : f_M_in x.toInt64 (0 : Int64) ((gi s1 0 1 - (1 : Int32)).toInt64) = inb x a.1.2.2.length := by
    rw [hz.2.2.2.2.1.1, Bool.eq_iff_iff, in_upto x (by omega), inb_iff (by omega)]
  rw [e]
  refine zT.ite (fun c => ?_) (fun c => ?_)
  · rw [if_pos c] at hr
    subst hr
    obtain ⟨k, hk, rfl⟩ := (inb_iff (by omega)).mp c
    refine zT.gu (inb_n (by omega) (by decide)) ?_
    rw [nI_clamp (by omega), ai_n _ _ (by omega)]
    refine zT.ret ⟨?_, h00, hE0, hz⟩
    have := hz.2.2.2.2.1.2 k hk
    rw [Nat.zero_add] at this
    exact this
  · rw [if_neg c] at hr
    subst hr
    have hE2 : zE p00 s1 (si s1 0 0 1) := (zE.refl _ _).wi rfl
    exact zT.ltS (zT.ret ⟨rfl, rfl, hE0.trans (hE2.mono (fun o j e => by simp [pMo, p00] at *; omega)), hz.fr hE2 (fun o j e => by simp [qM, p00] at *; omega)⟩)
theorem x_row {T : Nat} {s : ZSt} {a : ZA} (x : Int32) (h : XX s T a) : zT (f_L_row x s) (xPT (sRow x a) T a s) := by
  have hl := h.1.2.2.1
  obtain ⟨hA, ⟨st, hst, hB⟩, hO⟩ := id h
  generalize hr : sRow x a = r
  unfold sRow at hr
  unfold f_L_row f_X_row
  refine zT.bi ?_
  refine zT.jnQ (fun _ => none = r) (fun _ e => ?_) (fun j4 hj => ?_)
  · subst e
    exact zT.ret (x_none h)
  · rw [hO.2.2.1.1]
    rcases nI_cases x a.1.2.2.length (by omega) with ⟨k, hk, rfl⟩ | q | q
    · rw [if_pos (inb_n hk (by omega)), nI_clamp (by omega)] at hr
      subst hr
      refine zT.ie (nI_pos (by omega)) (zT.it (nI_lt hk (by omega)) (zT.gu (inb_n (by omega) (by decide)) ?_))
      have := hO.2.2.1.2 k hk
      rw [Nat.zero_add] at this
      rw [ai_n _ _ (by omega), this]
      exact zT.ret (x_some _ (zE.refl _ _) h)
    · rw [if_neg (fun w => by
        obtain ⟨k, hk, rfl⟩ := (inb_iff (by omega)).mp w
        exact absurd q (nI_pos (by omega)))] at hr
      exact zT.it q (hj () hr)
    · rw [if_neg (fun w => by
        obtain ⟨k, hk, rfl⟩ := (inb_iff (by omega)).mp w
        exact absurd q (nI_ge hk (by omega)))] at hr
      exact zT.ie (fun w => absurd (Int32.lt_of_le_of_lt q w) (nI_pos (by omega))) (zT.ie (Int32.not_lt.mpr q) (hj () hr))
end Z37
