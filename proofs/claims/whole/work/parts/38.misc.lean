-- reader, sit, count, log; an entry of the log
section Z38
def aRd (a : ZA) (t l : Nat) : ZA := (a.1, a.2.1, (a.2.2.1.1 + 1, ups a.2.2.1.2.1 a.2.2.1.1 t, ups a.2.2.1.2.2 a.2.2.1.1 l), (a.2.2.2.1.1, a.2.2.2.1.2.1, ups a.2.2.2.1.2.2.1 a.2.2.1.1 0, ups a.2.2.2.1.2.2.2.1 a.2.2.1.1 t, a.2.2.2.1.2.2.2.2), a.2.2.2.2)
def sReader (x y : Int32) (a : ZA) : Int32 × ZA := if inb x 3 = true ∧ inb y (2 ^ a.2.1.1) = true ∧ a.2.2.1.1 < 6 then (nI a.2.2.1.1, aRd a x.toNatClampNeg y.toNatClampNeg) else (-1, a)
theorem aRd_D (a : ZA) (t l : Nat) : aD (aRd a t l) = aD a := by
  unfold aD dD aRd
  congr 3
  funext b
  show cntr (ups a.2.2.2.1.2.2.1 a.2.2.1.1 0) b a.2.2.1.1 + ((ups a.2.2.2.1.2.2.1 a.2.2.1.1 0 a.2.2.1.1).testBit b).toNat = _
  rw [ups_s, Nat.zero_testBit, cntr_eq (dn := a.2.2.2.1.2.2.1) (fun r hr => by rw [ups_n _ _ (by omega)])]
  rfl
theorem okA_rd {a : ZA} (h : okA a) {t l : Nat} (ht : t < 3) (hl : l < 2 ^ a.2.1.1) (hn : a.2.2.1.1 < 6) : okA (aRd a t l) := by
  obtain ⟨h1, h2, h3, h4, h5, h6, h7, ⟨h8, h9, h10, h11⟩, h12⟩ := h
  have hp : 0 < 2 ^ a.2.1.1 := Nat.pos_of_ne_zero (by simp)
  refine ⟨h1, h2, h3, h4, h5, hn, fun r hr => ?_, ⟨h8, h9, fun r hr => ?_, h11⟩, fun i S m hi hK => ⟨(h12 i S m hi hK).1, Nat.le_succ_of_le (h12 i S m hi hK).2⟩⟩
  · have hr : r < a.2.2.1.1 + 1 := hr
    show ups a.2.2.1.2.1 a.2.2.1.1 t r < 3 ∧ ups a.2.2.1.2.2 a.2.2.1.1 l r < 2 ^ a.2.1.1
    rw [ups_i, ups_i]
    by_cases e : r = a.2.2.1.1
    · rw [if_pos e, if_pos e]; exact ⟨ht, hl⟩
    · rw [if_neg e, if_neg e]; exact h7 r (by omega)
  · have hr : r < a.2.2.1.1 + 1 := hr
    show ups a.2.2.2.1.2.2.1 a.2.2.1.1 0 r < 2 ^ a.2.1.1 ∧ ups a.2.2.2.1.2.2.2.1 a.2.2.1.1 t r < 3
    rw [ups_i, ups_i]
    by_cases e : r = a.2.2.1.1
    · rw [if_pos e, if_pos e]; exact ⟨hp, ht⟩
    · rw [if_neg e, if_neg e]; exact h10 r (by omega)
def pmrd : Nat → Nat → Bool := fun o j => (o == 0 && j == 9) || o == 110 || o == 111 || o == 112 || o == 113
theorem m_reader {s : ZSt} {a : ZA} (x y : Int32) (h : MA s a) : zT (f_M_reader x y s) (mP (sReader x y a).1 (sReader x y a).2 s) := by
  have hnb := h.1.2.2.2.1
  have hnr := h.1.2.2.2.2.2.1
  generalize hr : sReader x y a = r
  unfold sReader at hr
  unfold f_M_reader
  refine zT.ln (fun s1 hs1 => ?_)
  obtain ⟨hz, hE0, h00⟩ := mz h hs1
  clear hs1
  rw [inb_isTab, inb_areBooks hz.2.1.1.1 hnb, hz.2.1.1.2.2.1]
  have hp : 2 ^ a.2.1.1 ≤ 4096 := Nat.pow_le_pow_right (n := 2) (by decide) hnb
  refine zT.ite (fun c1 => ?_) (fun c1 => ?_)
  · refine zT.ite (fun c2 => ?_) (fun c2 => ?_)
    · refine zT.ite (fun c3 => ?_) (fun c3 => ?_)
      · have e6 : a.2.2.1.1 = 6 := (nI_eq (by omega) (by decide)).mp c3
        rw [if_neg (by omega)] at hr
        subst hr
        exact zT.ret ⟨rfl, hE0, hz⟩
      · have hlt : a.2.2.1.1 < 6 := by
          rcases Nat.lt_or_ge a.2.2.1.1 6 with q | q
          · exact q
          · exact absurd (by rw [show a.2.2.1.1 = 6 by omega]; rfl) c3
        rw [if_pos ⟨c1, c2, hlt⟩] at hr
        obtain ⟨t, ht, rfl⟩ := (inb_iff (by omega)).mp c1
        obtain ⟨l, hl, rfl⟩ := (inb_iff (by omega)).mp c2
        rw [nI_clamp (by omega), nI_clamp (by omega)] at hr
        subst hr
        have g9 := hz.2.1.1.2.2.1
        have hi : inb (nI a.2.2.1.1) 6 = true := inb_n hlt (by decide)
        refine zT.gu hi ?_
        rw [sai_n _ _ _ (by omega)]
        refine zT.ltS ?_
        rw [gi_i, if_neg (by omega), g9]
        refine zT.gu hi ?_
        rw [sai_n _ _ _ (by omega)]
        refine zT.ltS ?_
        rw [gi_i, if_neg (by omega), gi_i, if_neg (by omega), g9]
        refine zT.gu hi ?_
        rw [sai_n _ _ _ (by omega)]
        refine zT.ltS ?_
        rw [gi_i, if_neg (by omega), gi_i, if_neg (by omega), gi_i, if_neg (by omega), g9]
        refine zT.gu hi ?_
        rw [sai_n _ _ _ (by omega)]
        refine zT.ltS ?_
        rw [gi_i, if_neg (by omega), gi_i, if_neg (by omega), gi_i, if_neg (by omega), gi_i, if_neg (by omega), g9, nI_1]
        refine zT.ltS ?_
        have hE : zE pmrd s1 (si (si (si (si (si s1 110 a.2.2.1.1 (nI t)) 111 a.2.2.1.1 (nI t)) 112 a.2.2.1.1 (nI l)) 113 a.2.2.1.1 0) 0 9 (nI (a.2.2.1.1 + 1))) := (((((zE.refl _ _).wi rfl).wi rfl).wi rfl).wi rfl).wi rfl
        obtain ⟨hA, ⟨⟨a1, a2, a3, a4, a5, a6⟩, b1, b2, b3, b4, b5⟩, h2, h3, h4, h5, h6, h7⟩ := hz
        refine zT.ret ⟨?_, hE0.trans (hE.mono (fun o j e => by simp [pMo, pmrd] at *; omega)), okA_rd hA ht hl hlt, ⟨⟨(hE.i rfl).trans a1, a2, rfl, hlt, fun k hk => ?_, fun k hk => ?_⟩, fun k hk => (hE.i rfl).trans (b1 k hk), fun k hk => (hE.i rfl).trans (b2 k hk), fun k hk => ⟨(hE.i rfl).trans (b3 k hk).1, (b3 k hk).2⟩, fun k hk => (hE.i rfl).trans (b4 k hk), b5⟩, h2.fr hE ⟨rfl, fun _ => rfl⟩, MRl.fr h3 hA.2.1 hE ⟨rfl, fun _ _ => rfl⟩, h4.fr hE ⟨rfl, fun _ => rfl⟩, fun k hk => ?_, h6.fr hE ⟨rfl, rfl, fun _ => rfl⟩, MKs.fr h7 hE (fun _ => ⟨rfl, rfl⟩)⟩
        · show gi _ 0 9 - 1 = _
          rw [gi_i, if_pos ⟨rfl, rfl⟩, nI_pred]
        · have hk : k < a.2.2.1.1 + 1 := hk
          show gi _ 113 k = nI (ups a.2.2.2.1.2.2.1 a.2.2.1.1 0 k) ∧ ups a.2.2.2.1.2.2.1 a.2.2.1.1 0 k < 4096
          rw [ups_i]
          by_cases e : k = a.2.2.1.1
          · rw [if_pos e, gi_i, if_neg (by omega), gi_i, if_pos ⟨rfl, e⟩]; exact ⟨rfl, by decide⟩
          · rw [if_neg e, gi_i, if_neg (by omega), gi_i, if_neg (by omega), gi_i, if_neg (by omega), gi_i, if_neg (by omega), gi_i, if_neg (by omega)]
            exact a5 k (by omega)
        · obtain ⟨q1, q2, q3, q4, q5, q6, q7⟩ := a6 k hk
          exact ⟨q1.on (fun _ => hE.i rfl) (fun _ => hE.i rfl), q2.on (fun _ => hE.i rfl) (fun _ => hE.i rfl), q3, q4, (hE.i rfl).trans q5, q6, rfl⟩
        · have hk : k < a.2.2.1.1 + 1 := hk
          show gi _ 110 k = nI (ups a.2.2.2.1.2.2.2.1 a.2.2.1.1 t k) ∧ gi _ 111 k = nI (ups a.2.2.1.2.1 a.2.2.1.1 t k) ∧ gi _ 112 k = nI (ups a.2.2.1.2.2 a.2.2.1.1 l k)
          rw [ups_i, ups_i, ups_i]
          by_cases e : k = a.2.2.1.1
          · rw [if_pos e, if_pos e, if_pos e]
            simp [gi_i, e]
          · rw [if_neg e, if_neg e, if_neg e]
            simp only [gi_i, e, and_false, if_false, Nat.reduceEqDiff, false_and, and_self]
            have := h5 k (by omega)
            simpa using this
    · rw [if_neg (fun q => c2 q.2.1)] at hr
      subst hr
      exact zT.ret ⟨rfl, hE0, hz⟩
  · rw [if_neg (fun q => c1 q.1)] at hr
    subst hr
    exact zT.ret ⟨rfl, hE0, hz⟩
theorem x_reader {T : Nat} {s : ZSt} {a : ZA} (x y : Int32) (h : XX s T a) : zT (f_X_reader x y s) (xP (sReader x y a).1 T (sReader x y a).2 s) := by
  have hnb := h.1.2.2.2.1
  have hnr := h.1.2.2.2.2.2.1
  obtain ⟨hA, ⟨st, hst, hB⟩, hO⟩ := id h
  generalize hr : sReader x y a = r
  unfold sReader at hr
  unfold f_X_reader
  rw [inb_xTab, inb_beyond hB.1.1.1 hnb, hO.2.2.2.2.1.1]
  have hp : 2 ^ a.2.1.1 ≤ 4096 := Nat.pow_le_pow_right (n := 2) (by decide) hnb
  by_cases c1 : inb x 3 = true
  · rw [if_pos c1]
    by_cases c2 : inb y (2 ^ a.2.1.1) = true
    · rw [if_neg (by rw [c2]; decide)]
      refine zT.ite (fun c3 => ?_) (fun c3 => ?_)
      · have hlt : a.2.2.1.1 < 6 := by
          rw [show (6 : Int32) = nI 6 from rfl, nI_ltI (by omega) (by omega)] at c3; exact c3
        rw [if_pos ⟨c1, c2, hlt⟩] at hr
        obtain ⟨t, ht, rfl⟩ := (inb_iff (by omega)).mp c1
        obtain ⟨l, hl, rfl⟩ := (inb_iff (by omega)).mp c2
        rw [nI_clamp (by omega), nI_clamp (by omega)] at hr
        subst hr
        refine zT.gu (inb_n hlt (by decide)) ?_
        rw [ra_r (by omega)]
        unfold f_R_begin
        refine zT.bi (zT.gu (zb_R _ hlt) (zT.ltS (zT.ltS (zT.ltS (zT.ret ?_)))))
        rw [show gi (si (si (si s (500 + a.2.2.1.1) 0 (nI t)) (500 + a.2.2.1.1) 1 (nI t)) (500 + a.2.2.1.1) 2 (nI l)) 1 7 = nI a.2.2.1.1 from by
          rw [gi_i, if_neg (by omega), gi_i, if_neg (by omega), gi_i, if_neg (by omega)]; exact hO.2.2.2.2.1.1, nI_1]
        refine zT.ltS ?_
        have hE : zE (fun o j => (o == 1 && j == 7) || (o == 500 + a.2.2.1.1 && (j == 0 || j == 1 || j == 2))) s (si (si (si (si s (500 + a.2.2.1.1) 0 (nI t)) (500 + a.2.2.1.1) 1 (nI t)) (500 + a.2.2.1.1) 2 (nI l)) 1 7 (nI (a.2.2.1.1 + 1))) := ((((zE.refl _ _).wi (by simp)).wi (by simp)).wi (by simp)).wi (by simp)
        have hXA := XA.fr2 hB hE ⟨⟨by simp <;> omega, fun b hb => ⟨by simp <;> omega, by simp <;> omega, by simp <;> omega, by simp <;> omega, fun k => by simp <;> omega, fun k => by simp <;> omega⟩, fun t => by simp <;> omega⟩, by simp, fun b hb => ⟨by simp <;> omega, by simp <;> omega⟩, by simp <;> omega, fun j => ⟨by simp <;> omega, by simp <;> omega⟩⟩
        obtain ⟨k1, k2, k3, k4, k5, k6, k7⟩ := hO
        refine zT.ret ⟨?_, hE.mono (fun o j e => by simp [pXo] at *; omega), okA_rd hA ht hl hlt, ⟨st, hst, ?_⟩, k1.fr hE ⟨by simp <;> omega, fun _ => by simp <;> omega⟩, k2.fr hE ⟨by simp <;> omega, fun _ => by simp <;> omega⟩, k3.fr hE ⟨by simp <;> omega, fun _ => by simp <;> omega⟩, k4.fr hE (fun b hb => ⟨by simp <;> omega, by simp <;> omega⟩), ⟨?_, fun k hk => ?_, fun k hk1 hk2 => ?_⟩, k6.fr hE ⟨by simp, by simp, fun _ => by simp <;> omega⟩, XKs.fr k7 hE (fun o j h1 h2 => by simp <;> omega)⟩
        · show gi _ 1 7 - 1 = _
          rw [gi_i, if_pos ⟨rfl, rfl⟩, nI_pred]
        · show XA _ a.2.1.1 (aD (aRd a t l)) _ _ _ _ st
          rw [aRd_D]
          exact hXA
        · rfl
        · have hk : k < a.2.2.1.1 + 1 := hk
          show gi _ (500 + k) 0 = nI (ups a.2.2.1.2.1 a.2.2.1.1 t k) ∧ gi _ (500 + k) 1 = nI (ups a.2.2.2.1.2.2.2.1 a.2.2.1.1 t k) ∧ gi _ (500 + k) 2 = nI (ups a.2.2.1.2.2 a.2.2.1.1 l k) ∧ gi _ (500 + k) 3 = nI (ups a.2.2.2.1.2.2.1 a.2.2.1.1 0 k)
          rw [ups_i, ups_i, ups_i, ups_i]
          by_cases e : k = a.2.2.1.1
          · rw [if_pos e, if_pos e, if_pos e, if_pos e]
            refine ⟨by simp [gi_i, e], by simp [gi_i, e], by simp [gi_i, e], ?_⟩
            rw [hE.i (by simp), e]
            exact k5.2.2 _ (Nat.le_refl _) hlt
          · rw [if_neg e, if_neg e, if_neg e, if_neg e]
            have q := k5.2.1 k (by omega)
            exact ⟨(hE.i (by simp <;> omega)).trans q.1, (hE.i (by simp <;> omega)).trans q.2.1, (hE.i (by simp <;> omega)).trans q.2.2.1, (hE.i (by simp <;> omega)).trans q.2.2.2⟩
        · have hk1 : a.2.2.1.1 + 1 ≤ k := hk1
          exact (hE.i (by simp)).trans (k5.2.2 k (by omega) hk2)
      · rw [show (6 : Int32) = nI 6 from rfl, nI_ltI (by omega) (by omega)] at c3
        rw [if_neg (fun q => c3 q.2.2)] at hr
        subst hr
        exact zT.ret ⟨rfl, zE.refl _ _, h⟩
    · rw [if_neg (fun q => c2 q.2.1)] at hr
      subst hr
      rw [if_pos (by simpa using c2)]
      exact zT.ret ⟨rfl, zE.refl _ _, h⟩
  · rw [if_neg (fun q => c1 q.1)] at hr
    subst hr
    rw [if_neg c1]
    exact zT.ret ⟨rfl, zE.refl _ _, h⟩
-- sit
def aSit (a : ZA) (r t : Nat) : ZA := putS a (a.2.2.2.1.1, a.2.2.2.1.2.1, a.2.2.2.1.2.2.1, ups a.2.2.2.1.2.2.2.1 r t, a.2.2.2.1.2.2.2.2)
def sSit (x y : Int32) (a : ZA) : Int32 × ZA := if inb x a.2.2.1.1 = true ∧ inb y 3 = true then (nI (a.2.2.2.1.2.2.2.1 x.toNatClampNeg), aSit a x.toNatClampNeg y.toNatClampNeg) else (-1, a)
theorem okA_sit {a : ZA} (h : okA a) {r t : Nat} (ht : t < 3) : okA (aSit a r t) := by
  obtain ⟨h1, h2, h3, h4, h5, h6, h7, ⟨h8, h9, h10, h11⟩, h12⟩ := h
  refine ⟨h1, h2, h3, h4, h5, h6, h7, ⟨h8, h9, fun k hk => ⟨(h10 k hk).1, ?_⟩, h11⟩, h12⟩
  show ups a.2.2.2.1.2.2.2.1 r t k < 3
  rw [ups_i]
  split
  · exact ht
  · exact (h10 k hk).2
theorem m_sit {s : ZSt} {a : ZA} (x y : Int32) (h : MA s a) : zT (f_M_sit x y s) (mP (sSit x y a).1 (sSit x y a).2 s) := by
  have hnr := h.1.2.2.2.2.2.1
  generalize hr : sSit x y a = r
  unfold sSit at hr
  unfold f_M_sit
  refine zT.ln (fun s1 hs1 => ?_)
  obtain ⟨hz, hE0, h00⟩ := mz h hs1
  clear hs1
  rw [inb_isTab, inb_isReader hz.2.1.1.2.2.1 hnr]
  refine zT.ite (fun c1 => ?_) (fun c1 => ?_)
  · refine zT.ite (fun c2 => ?_) (fun c2 => ?_)
    · rw [if_pos ⟨c1, c2⟩] at hr
      obtain ⟨k, hk, rfl⟩ := (inb_iff (by omega)).mp c1
      obtain ⟨t, ht, rfl⟩ := (inb_iff (by omega)).mp c2
      rw [nI_clamp (by omega), nI_clamp (by omega)] at hr
      subst hr
      refine zT.gu (inb_n (by omega) (by decide)) ?_
      rw [ai_n _ _ (by omega), sai_n _ _ _ (by omega), (hz.2.2.2.2.2.1 k hk).1]
      refine zT.ltS (zT.ltS ?_)
      have hE : zE (fun o _ => o == 110) s1 (si s1 110 k (nI t)) := (zE.refl _ _).wi rfl
      obtain ⟨hA, hC, h2, h3, h4, h5, h6, h7⟩ := hz
      refine zT.ret ⟨rfl, hE0.trans (hE.mono (fun o j e => by simp [pMo] at *; omega)), okA_sit hA ht, MC.onC hC (fun o j e => hE.i (by simp [qC] at *; omega)), h2.fr hE ⟨rfl, fun _ => rfl⟩, MRl.fr h3 hA.2.1 hE ⟨rfl, fun _ _ => rfl⟩, h4.fr hE ⟨rfl, fun _ => rfl⟩, fun q hq => ?_, h6.fr hE ⟨rfl, rfl, fun _ => rfl⟩, MKs.fr h7 hE (fun _ => ⟨rfl, rfl⟩)⟩
      obtain ⟨w1, w2, w3⟩ := h5 q hq
      refine ⟨?_, (hE.i rfl).trans w2, (hE.i rfl).trans w3⟩
      show gi _ 110 q = nI (ups a.2.2.2.1.2.2.2.1 k t q)
      rw [gi_i, ups_i]
      by_cases e : q = k
      · rw [if_pos ⟨rfl, e⟩, if_pos e]
      · rw [if_neg (fun w => e w.2), if_neg e]; exact w1
    · rw [if_neg (fun q => c2 q.2)] at hr
      subst hr
      exact zT.ret ⟨rfl, hE0, hz⟩
  · rw [if_neg (fun q => c1 q.1)] at hr
    subst hr
    exact zT.ret ⟨rfl, hE0, hz⟩
theorem x_sit {T : Nat} {s : ZSt} {a : ZA} (x y : Int32) (h : XX s T a) : zT (f_X_sit x y s) (xP (sSit x y a).1 T (sSit x y a).2 s) := by
  have hnr := h.1.2.2.2.2.2.1
  obtain ⟨hA, ⟨st, hst, hB⟩, hO⟩ := id h
  generalize hr : sSit x y a = r
  unfold sSit at hr
  unfold f_X_sit
  rw [inb_xTab, inb_xReader hO.2.2.2.2.1.1 hnr]
  refine zT.ite (fun c1 => ?_) (fun c1 => ?_)
  · refine zT.ite (fun c2 => ?_) (fun c2 => ?_)
    · rw [if_pos ⟨c1, c2⟩] at hr
      obtain ⟨k, hk, rfl⟩ := (inb_iff (by omega)).mp c1
      obtain ⟨t, ht, rfl⟩ := (inb_iff (by omega)).mp c2
      rw [nI_clamp (by omega), nI_clamp (by omega)] at hr
      subst hr
      refine zT.gu (inb_n (by omega) (by decide)) ?_
      rw [ra_r (by omega), (hO.2.2.2.2.1.2.1 k hk).2.1]
      refine zT.ltS (zT.ltS ?_)
      have hE : zE (fun o j => o == 500 + k && j == 1) s (si s (500 + k) 1 (nI t)) := (zE.refl _ _).wi (by simp)
      have hXA := XA.fr2 hB hE ⟨⟨by simp <;> omega, fun b hb => ⟨by simp <;> omega, by simp <;> omega, by simp <;> omega, by simp <;> omega, fun k => by simp <;> omega, fun k => by simp <;> omega⟩, fun t => by simp <;> omega⟩, by simp <;> omega, fun b hb => ⟨by simp <;> omega, by simp <;> omega⟩, by simp <;> omega, fun j => ⟨by simp <;> omega, by simp <;> omega⟩⟩
      obtain ⟨k1, k2, k3, k4, k5, k6, k7⟩ := hO
      refine zT.ret ⟨rfl, hE.mono (fun o j e => by simp [pXo] at *; omega), okA_sit hA ht, ⟨st, hst, hXA⟩, k1.fr hE ⟨by simp <;> omega, fun _ => by simp <;> omega⟩, k2.fr hE ⟨by simp <;> omega, fun _ => by simp <;> omega⟩, k3.fr hE ⟨by simp <;> omega, fun _ => by simp <;> omega⟩, k4.fr hE (fun b hb => ⟨by simp <;> omega, by simp <;> omega⟩), ⟨(hE.i (by simp <;> omega)).trans k5.1, fun q hq => ?_, fun q hk1 hk2 => (hE.i (by simp <;> omega)).trans (k5.2.2 q hk1 hk2)⟩, k6.fr hE ⟨by simp <;> omega, by simp <;> omega, fun _ => by simp <;> omega⟩, XKs.fr k7 hE (fun o j h1 h2 => by simp <;> omega)⟩
      obtain ⟨w1, w2, w3, w4⟩ := k5.2.1 q hq
      refine ⟨(hE.i (by simp <;> omega)).trans w1, ?_, (hE.i (by simp <;> omega)).trans w3, (hE.i (by simp <;> omega)).trans w4⟩
      show gi _ (500 + q) 1 = nI (ups a.2.2.2.1.2.2.2.1 k t q)
      rw [gi_i, ups_i]
      by_cases e : q = k
      · rw [if_pos ⟨by omega, rfl⟩, if_pos e]
      · rw [if_neg (fun w => e (by omega)), if_neg e]; exact w2
    · rw [if_neg (fun q => c2 q.2)] at hr
      subst hr
      exact zT.ret ⟨rfl, zE.refl _ _, h⟩
  · rw [if_neg (fun q => c1 q.1)] at hr
    subst hr
    exact zT.ret ⟨rfl, zE.refl _ _, h⟩
end Z38
