-- act, why, night, reader, sit, read, of, count, row
section Z34
def aD (a : ZA) : ZD := dD a.2.1 a.2.2.1 a.2.2.2.1
def awy (a : ZA) (k : Nat) : Int32 := wy (aD a) a.2.1.2.2.2.2.2 a.2.2.2.1.1 (loo a.2.1.2.2.2.2.1 a.2.2.2.1.2.1) k
abbrev vact (x : Int32) (a : ZA) : Prop := inb x 140 = true ∧ x.toNatClampNeg % 20 < a.2.1.1
def putA (a : ZA) (f : Nat → Nat) (opn : Nat → Int32) : ZA := putB a a.2.1.2.2.2.2.1 a.2.1.2.2.2.2.2 f opn
def aact (a : ZA) (k : Nat) : ZA := putA a (aft (aD a) a.2.1.1 a.2.2.2.1.1 k) (opa a.2.2.2.1.2.1 k)
def agon (a : ZA) (k : Nat) : Int32 := nI (gon a.2.2.2.1.1 (aft (aD a) a.2.1.1 a.2.2.2.1.1 k) k)
theorem vact_iff {x : Int32} {a : ZA} : vact x a ↔ ∃ k, k < 140 ∧ k % 20 < a.2.1.1 ∧ x = nI k := by
  unfold vact
  rw [inb_iff (by decide)]
  constructor
  · rintro ⟨⟨k, hk, rfl⟩, h⟩
    rw [nI_clamp (by omega)] at h
    exact ⟨k, hk, h, rfl⟩
  · rintro ⟨k, hk, h, rfl⟩
    refine ⟨⟨k, hk, rfl⟩, ?_⟩
    rw [nI_clamp (by omega)]; exact h
theorem wy_neg {D : ZD} {rm f : Nat → Nat} {lo : Nat → Bool} {k : Nat} : 0 ≤ wy D rm f lo k → wy D rm f lo k = 0 := by
  have hn : ∀ b t, 0 ≤ npl D rm f b t → npl D rm f b t = 0 := fun b t => by
    unfold npl
    intro h
    split at h
    · split at h
      · rw [if_pos (by assumption), if_pos (by assumption)]
      · exact absurd h (by decide)
    · exact absurd h (by decide)
  unfold wy
  intro h
  split at h
  · rw [if_pos (by assumption)]
    split at h
    · exact absurd h (by decide)
    · rw [if_neg (by assumption)]
      split at h
      · rw [if_pos (by assumption)]; exact hn _ _ h
      · exact absurd h (by decide)
  · rw [if_neg (by assumption)]
    split at h
    · rw [if_pos (by assumption)]
      split at h
      · rw [if_pos (by assumption)]
      · exact absurd h (by decide)
    · rw [if_neg (by assumption)]
      split at h
      · exact absurd h (by decide)
      · rw [if_neg (by assumption)]; exact hn _ _ h
theorem okA_act {a : ZA} (h : okA a) {k : Nat} (hk : k < 140) (hb : k % 20 < a.2.1.1) : okA (aact a k) := by
  refine okA_put h h.2.2.2.2.1 (aft_ok h.2.2.2.2.2.2.2.1.1 hk hb) (fun b hb' => ?_)
  have := h.2.2.2.2.2.2.2.1.2.1 b hb'
  unfold opa
  split
  · rw [ups_n _ _ (by omega)]; exact this
  · exact this
theorem pmak_mo {s t : ZSt} (h : zE pmak s t) : zE pMo s t := h.mono (fun o j e => by simp [pMo, pmak] at *; omega)
/-- an act that can be made, made -/
theorem m_make {n k : Nat} {s : ZSt} {a : ZA} (hn : 60 < n) (h : MA s a) (hk : k < 140) (hb : k % 20 < a.2.1.1) (hw : awy a k = 0) : zT (f_M_makes n (nI k) s) (fun q => q.1 = agon a k ∧ zE pmak s q.2 ∧ MA q.2 (aact a k)) := by
  refine (m_makes hn h.2.1 hk hb hw).mono ?_
  rintro ⟨v, t⟩ ⟨rfl, hE, hK⟩
  exact ⟨rfl, hE, h.put hE (fun o j e1 e2 => by simp [qM, pmak] at *; omega) (okA_act h.1 hk hb) hK⟩
def sWhy (x : Int32) (a : ZA) : Int32 := if inb x 140 = true ∧ x.toNatClampNeg % 20 < a.2.1.1 then awy a x.toNatClampNeg else -1
def sAct (x : Int32) (a : ZA) : Int32 × ZA := if inb x 140 = true ∧ x.toNatClampNeg % 20 < a.2.1.1 then (if awy a x.toNatClampNeg = 0 then (agon a x.toNatClampNeg, aact a x.toNatClampNeg) else (awy a x.toNatClampNeg, a)) else (-1, a)
theorem m_act {n : Nat} {s : ZSt} {a : ZA} (x : Int32) (hn : 60 < n) (h : MA s a) : zT (f_M_act n x s) (mP (sAct x a).1 (sAct x a).2 s) := by
  have hnb := h.1.2.2.2.1
  generalize hr : sAct x a = r
  unfold sAct at hr
  unfold f_M_act
  refine zT.ln (fun s1 hs1 => ?_)
  obtain ⟨hz, hE0, h00⟩ := mz h hs1
  clear hs1
  refine zT.ite (fun c => ?_) (fun c => ?_)
  · rw [m_isAct hz.2.1.1.1 hnb] at c
    have cv := vact_iff.mpr c
    obtain ⟨k, hk, hb, rfl⟩ := c
    rw [if_pos cv, nI_clamp (by omega)] at hr
    refine zT.bnT (m_whyNot hn hz.2.1 hk hb) ?_
    rintro ⟨w, t⟩ ⟨hw, hE⟩
    dsimp only at *
    have hw : w = awy a k := hw
    refine zT.ite (fun c2 => ?_) (fun c2 => ?_)
    · have hw0 : awy a k = 0 := wy_neg (by rw [hw] at c2; exact c2)
      rw [if_pos hw0] at hr
      subst hr
      refine zT.bnT (m_make hn (hz.s116 hE) hk hb hw0) ?_
      rintro ⟨v, u⟩ ⟨hv, hE2, hM⟩
      exact zT.ret ⟨hv, (hE0.trans (p116_mo hE)).trans (pmak_mo hE2), hM⟩
    · have hw0 : ¬ awy a k = 0 := fun e => c2 (by rw [hw, e]; decide)
      rw [if_neg hw0] at hr
      subst hr
      exact zT.ret ⟨hw, hE0.trans (p116_mo hE), hz.s116 hE⟩
  · rw [m_isAct hz.2.1.1.1 hnb] at c
    rw [if_neg (fun q => c (vact_iff.mp q))] at hr
    subst hr
    exact zT.ret ⟨rfl, hE0, hz⟩
theorem m_why {n : Nat} {s : ZSt} {a : ZA} (x : Int32) (hn : 60 < n) (h : MA s a) : zT (f_M_why n x s) (mP (sWhy x a) a s) := by
  have hnb := h.1.2.2.2.1
  unfold f_M_why sWhy
  refine zT.ln (fun s1 hs1 => ?_)
  obtain ⟨hz, hE0, h00⟩ := mz h hs1
  clear hs1
  refine zT.ite (fun c => ?_) (fun c => ?_)
  · rw [m_isAct hz.2.1.1.1 hnb] at c
    have cv := vact_iff.mpr c
    obtain ⟨k, hk, hb, rfl⟩ := c
    have e : (if inb (nI k) 140 = true ∧ (nI k).toNatClampNeg % 20 < a.2.1.1 then awy a (nI k).toNatClampNeg else -1) = awy a k := by rw [if_pos cv, nI_clamp (by omega)]
    rw [e]
    refine zT.bnT (m_whyNot hn hz.2.1 hk hb) ?_
    rintro ⟨w, t⟩ ⟨hw, hE⟩
    exact zT.ret ⟨hw, hE0.trans (p116_mo hE), hz.s116 hE⟩
  · rw [m_isAct hz.2.1.1.1 hnb] at c
    have e : (if inb x 140 = true ∧ x.toNatClampNeg % 20 < a.2.1.1 then awy a x.toNatClampNeg else -1) = -1 := if_neg (fun q => c (vact_iff.mp q))
    rw [e]
    exact zT.ret ⟨rfl, hE0, hz⟩
-- the class
def pxk : Nat → Nat → Bool := fun o j => o == 243 || o == 244 || (decide (440 ≤ o) && decide (o < 475)) || (o == 1 && j == 8) || (decide (300 ≤ o) && decide (o < 312) && j == 4)
theorem pmb_xk {s t : ZSt} (h : zE pmb s t) : zE pxk s t := h.mono (fun o j e => by simp [pmb, pxk] at *; omega)
theorem pxk_xo {s t : ZSt} (h : zE pxk s t) : zE pXo s t := h.mono (fun o j e => by simp [pXo, pxk] at *; omega)
section
variable {n nb st : Nat} {D : ZD} {lim opn : Nat → Int32} {rm f : Nat → Nat} {s : ZSt}
theorem XA.now (h : XA s nb D lim opn rm f st) {g : Nat → Nat} (hg : okF nb g) : XA (sl s 1 8 (lN (en g))) nb D lim opn rm g st := by
  have hE : zE (fun o j => o == 1 && j == 8) s (sl s 1 8 (lN (en g))) := (zE.refl _ _).wl rfl
  obtain ⟨⟨a, b, c⟩, d, e, _, _⟩ := h
  refine ⟨⟨a.fr hE ⟨rfl, fun b hb => ⟨?_, ?_, ?_, ?_, fun k => ?_, fun k => ?_⟩, fun _ => rfl⟩, b.on rfl (fun _ => rfl) (fun _ => rfl), c⟩, d, e, rfl, hg⟩ <;> (simp; try omega)
theorem XA.opn1 (h : XA s nb D lim opn rm f st) {b : Nat} (hb : b < nb) (v : Int32) : XA (si s (300 + b) 4 v) nb D lim (ups opn b v) rm f st := by
  have hnb := h.1.1.2.1
  have hE : zE (fun o j => o == 300 + b && j == 4) s (si s (300 + b) 4 v) := (zE.refl _ _).wi (by simp)
  obtain ⟨⟨a, b', c⟩, d, e, g, k⟩ := h
  refine ⟨⟨a.fr hE ⟨?_, fun b hb => ⟨?_, ?_, ?_, ?_, fun k => ?_, fun k => ?_⟩, fun _ => ?_⟩, b'.on (hE.i ?_) (fun _ => hE.i ?_) (fun _ => hE.i ?_), fun t ht => ⟨(hE.i ?_).trans (c t ht).1, (c t ht).2⟩⟩, fun t ht => (hE.i ?_).trans (d t ht), fun t ht => by
    rw [gi_i, ups_i]
    by_cases q : t = b
    · rw [if_pos ⟨by omega, rfl⟩, if_pos q]
    · rw [if_neg (fun w => q (by omega)), if_neg q]; exact e t ht, g, k⟩
  all_goals (simp <;> omega)
theorem gd_any (hF : okF nb f) (hnb : nb ≤ 12) : f_X_anywhere (lN (en f)) = nI (anyw f) := any_e (hF.S hnb)
set_option maxHeartbeats 1000000 in
theorem x_make {k : Nat} (hn : 60 < n) (h : XA s nb D lim opn rm f st) (hk : k < 140) (hb : k % 20 < nb) : zT (f_X_make n (nI k) s) (fun q => q.1 = nI (gon f (aft D nb f k) k) ∧ zE pxk s q.2 ∧ XA q.2 nb D lim (opa opn k) rm (aft D nb f k) st) := by
  have hnb := h.1.1.2.1
  have hF := h.2.2.2.2
  have hG := aft_ok (D := D) hF hk hb
  unfold f_X_make
  rw [rem20 (by omega), div20 (by omega), shI_n (by omega), h.2.2.2.1, gd_any hF hnb]
  refine zT.ltS (zT.ln (fun x2 hx2 => zT.ln (fun x3 hx3 => ?_)))
  have e3 : x3 = nI (if 60 ≤ k ∧ k < 80 then ndf (anyw f) (2 ^ (k % 20)) else anyw f ||| 2 ^ (k % 20)) := by
    rw [hx3, hx2]
    by_cases q : k / 20 = 3
    · rw [if_pos (show nI (k / 20) = 3 by rw [q]; rfl), if_neg (by decide), if_pos (by omega), nI_andn]
    · rw [if_neg (show ¬ nI (k / 20) = 3 by rw [show (3 : Int32) = nI 3 from rfl, nI_eq (by omega) (by omega)]; exact q), if_pos rfl, if_neg (show ¬ (60 ≤ k ∧ k < 80) by omega), nI_or]
  refine zT.jnQ (fun x4 => zE pxk s x4 ∧ XA x4 nb D lim (opa opn k) rm f st) ?_ ?_
  · rintro x4 ⟨hE, hX⟩
    rw [hX.2.2.2.1]
    refine zT.bnT (t_after hn hX.1 hF hk hb) ?_
    rintro ⟨_, u⟩ ⟨rfl, hE2, hK⟩
    refine zT.ltS ?_
    dsimp only
    rw [show gl (sl u 1 8 (lN (en (aft D nb f k)))) 1 8 = lN (en (aft D nb f k)) from rfl, gd_any hG hnb, e3, nI_andn]
    exact zT.ret ⟨rfl, (hE.trans (pmb_xk hE2)).wl rfl, (hX.fr hE2 hK).now hG⟩
  · intro j7 hj
    refine zT.ite (fun c => ?_) (fun c => ?_)
    · rw [show (3 : Int32) = nI 3 from rfl, nI_leI (by omega) (by omega)] at c
      have eo : opa opn k = opn := by unfold opa; rw [if_neg (show ¬ k < 60 by omega)]
      exact hj _ ⟨zE.refl _ _, by rw [eo]; exact h⟩
    · rw [show (3 : Int32) = nI 3 from rfl, nI_leI (by omega) (by omega)] at c
      have eo : opa opn k = ups opn (k % 20) (opn (k % 20) + 1) := by unfold opa; rw [if_pos (show k < 60 by omega)]
      refine zT.gu (inb_n (by omega) (by decide)) ?_
      rw [ra_b (by omega), h.2.2.1 _ (by omega)]
      exact zT.ltS (hj _ ⟨(zE.refl _ _).wi (by simp [pxk]; omega), by rw [eo]; exact h.opn1 hb _⟩)
end
theorem spk_lo {lo : Nat → Bool} {nb : Nat} : ∀ b, b < nb → (spk lo nb).testBit b = !lo b := fun b hb => by
  rw [spk_t]; simp [hb]
theorem spk_12 (lo : Nat → Bool) {nb : Nat} (h : nb ≤ 12) : spk lo nb < 4096 := Nat.lt_of_lt_of_le (spk_lt lo nb) (Nat.pow_le_pow_right (n := 2) (by decide) h)
theorem XX.put2 {s t : ZSt} {T st : Nat} {a : ZA} (hA : okA a) (h1 : st ≤ T + 1) (h3 : XO s T a) (hE : zE pxk s t) {f : Nat → Nat} {opn : Nat → Int32} (hA' : okA (putA a f opn)) (hB : XB t st (putA a f opn)) : XX t T (putA a f opn) :=
  XX.put hA h1 h3 hE (fun o j e1 e2 => by simp [qX, pxk] at *; omega) hA' hB
theorem x_act {n T : Nat} {s : ZSt} {a : ZA} (x : Int32) (hn : 60 < n) (h : XX s T a) : zT (f_X_act n x s) (xP (sAct x a).1 T (sAct x a).2 s) := by
  have hnb := h.1.2.2.2.1
  obtain ⟨hA, ⟨st, hst, hB⟩, hO⟩ := id h
  generalize hr : sAct x a = r
  unfold sAct at hr
  unfold f_X_act
  refine zT.bnE (t_spent (by omega) hB) ?_
  rw [hB.2.2.2.1]
  by_cases c : inb x 140 = true ∧ x.toNatClampNeg % 20 < a.2.1.1
  · rw [if_pos c] at hr
    obtain ⟨k, hk, hb, rfl⟩ := vact_iff.mp c
    rw [nI_clamp (by omega)] at hr
    refine zT.bnT (t_refusal hn hB.1 hB.2.2.2.2 (spk_12 _ hnb) spk_lo hk hb) ?_
    rintro ⟨w, t⟩ ⟨hw, hE, hK⟩
    dsimp only at *
    have hw : w = awy a k := hw
    have hB2 := hB.smb hE hK
    refine zT.ite (fun c2 => ?_) (fun c2 => ?_)
    · rw [← hw, if_pos c2] at hr
      subst hr
      refine zT.bnT (x_make hn hB2 hk hb) ?_
      rintro ⟨v, u⟩ ⟨hv, hE2, hX⟩
      exact zT.ret ⟨hv, (pmb_xo hE).trans (pxk_xo hE2), XX.put2 hA hst (hO.smb hA hE) hE2 (okA_act hA hk hb) hX⟩
    · rw [← hw, if_neg c2] at hr
      subst hr
      exact zT.ret ⟨rfl, pmb_xo hE, XX.smb hA hst hB hO hE hK⟩
  · rw [if_neg c] at hr
    subst hr
    refine zT.bnE (t_refusalN hB.1 (fun q => c (vact_iff.mpr q))) ?_
    exact zT.ie (show ¬ (-1 : Int32) = 0 from by decide) (zT.ret ⟨rfl, zE.refl _ _, h⟩)
theorem x_why {n T : Nat} {s : ZSt} {a : ZA} (x : Int32) (hn : 60 < n) (h : XX s T a) : zT (f_X_why n x s) (xP (sWhy x a) T a s) := by
  have hnb := h.1.2.2.2.1
  obtain ⟨hA, ⟨st, hst, hB⟩, hO⟩ := id h
  generalize hr : sWhy x a = r
  unfold sWhy at hr
  unfold f_X_why
  refine zT.bnE (t_spent (by omega) hB) ?_
  rw [hB.2.2.2.1]
  by_cases c : inb x 140 = true ∧ x.toNatClampNeg % 20 < a.2.1.1
  · rw [if_pos c] at hr
    obtain ⟨k, hk, hb, rfl⟩ := vact_iff.mp c
    rw [nI_clamp (by omega)] at hr
    refine zT.bnT (t_refusal hn hB.1 hB.2.2.2.2 (spk_12 _ hnb) spk_lo hk hb) ?_
    rintro ⟨w, t⟩ ⟨hw, hE, hK⟩
    subst hr
    exact zT.ret ⟨hw, pmb_xo hE, XX.smb hA hst hB hO hE hK⟩
  · rw [if_neg c] at hr
    subst hr
    refine zT.bnE (t_refusalN hB.1 (fun q => c (vact_iff.mpr q))) ?_
    exact zT.ret ⟨rfl, zE.refl _ _, h⟩
-- bits of books
theorem sr0 {x : Int32} {k : Nat} (hk : k < 31) : srI x (nI k) = 0 ↔ inb x (2 ^ k) = true := by
  have hp : 2 ^ k < 2 ^ 31 := Nat.pow_lt_pow_right (by decide) hk
  rw [inb_iff hp]
  have h1 : (srI x (nI k)).toInt = x.toInt >>> k := pk_shr x _ _ (s31 _ (by omega))
  rw [Int.shiftRight_eq_div_pow] at h1
  have hpos : (0 : Int) < ((2 ^ k : Nat) : Int) := by exact_mod_cast Nat.pos_of_ne_zero (by simp)
  constructor
  · intro h
    rw [h, show (0 : Int32).toInt = 0 from rfl] at h1
    have h2 := Int.emod_nonneg x.toInt (Int.ne_of_gt hpos)
    have h3 := Int.emod_lt_of_pos x.toInt hpos
    have h4 := Int.mul_ediv_add_emod x.toInt ((2 ^ k : Nat) : Int)
    rw [← h1, Int.mul_zero] at h4
    refine vp_in_of (vp_in_iff.mpr ⟨by omega, by omega⟩) hp
  · rintro ⟨m, hm, rfl⟩
    rw [srI_n (by omega) (by omega), Nat.shiftRight_eq_div_pow, Nat.div_eq_of_lt hm]; rfl
theorem inb_areBooks {s : ZSt} {nb : Nat} (h3 : gi s 0 3 = nI nb) (hnb : nb ≤ 12) (x : Int32) : f_M_areBooks x s = inb x (2 ^ nb) := by
  have hp : 2 ^ nb < 2 ^ 31 := Nat.pow_lt_pow_right (by decide) (by omega)
  rw [Bool.eq_iff_iff, inb_iff hp]
  unfold f_M_areBooks
  rw [h3, shI_n (by omega)]
  exact in_upto x hp
theorem inb_beyond {s : ZSt} {nb : Nat} (h3 : gi s 201 2 = nI nb) (hnb : nb ≤ 12) (x : Int32) : f_T_beyond x s = !inb x (2 ^ nb) := by
  unfold f_T_beyond
  rw [h3]
  by_cases c : inb x (2 ^ nb) = true
  · rw [if_pos ((sr0 (by omega)).mpr c), c]; rfl
  · rw [if_neg (fun q => c ((sr0 (by omega)).mp q))]
    cases q : inb x (2 ^ nb)
    · rfl
    · exact absurd q c
end Z34
