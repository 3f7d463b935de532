-- hold, frees
section Z50
def hok (a : ZA) (t set : Nat) : Bool := decide (pcn set ≤ a.2.1.2.2.2.2.2 t) && decide (stt (aD a) a.2.1.1 t set = set)
def hld (a : ZA) (t : Nat) : Nat → Nat × Nat
  | 0 => (0, 0)
  | k + 1 => if hok a t k = true then ((hld a t k).1 + 1, if pcn k > pcn (hld a t k).2 then k else (hld a t k).2) else hld a t k
theorem hld_s (a : ZA) (t k : Nat) : hld a t (k + 1) = if hok a t k = true then ((hld a t k).1 + 1, if pcn k > pcn (hld a t k).2 then k else (hld a t k).2) else hld a t k := rfl
theorem hld_b (a : ZA) (t k : Nat) (hk : k ≤ 4096) : (hld a t k).1 ≤ k ∧ (hld a t k).2 < 4096 := by
  induction k with
  | zero => exact ⟨Nat.le_refl _, (show (0 : Nat) < 4096 by decide)⟩
  | succ k ih =>
    obtain ⟨i1, i2⟩ := ih (by omega)
    rw [hld_s]
    split
    · refine ⟨by dsimp only; omega, ?_⟩
      dsimp only
      split <;> omega
    · exact ⟨by omega, i2⟩
theorem stt_id {D : ZD} {nb t x : Nat} (hx : x < 4096) : stt D nb t x = x ↔ ndf x (mmk D t x nb) = 0 := by
  have e : ∀ y z : Nat, y &&& z = y ↔ ndf y z = 0 := fun y z => by
    constructor
    · intro h
      apply Nat.eq_of_testBit_eq
      intro i
      rw [ndf_t, Nat.zero_testBit]
      have q : (y &&& z).testBit i = y.testBit i := by rw [h]
      rw [Nat.testBit_and] at q
      revert q
      cases y.testBit i <;> cases z.testBit i <;> decide
    · intro h
      apply Nat.eq_of_testBit_eq
      intro i
      have q : (ndf y z).testBit i = false := by rw [h, Nat.zero_testBit]
      rw [ndf_t] at q
      rw [Nat.testBit_and]
      revert q
      cases y.testBit i <;> cases z.testBit i <;> decide
  rw [← e]
  constructor
  · intro h
    have := sto_fix (m := fun y => mmk D t y nb) hx
    have h' : sto (fun y => mmk D t y nb) x = x := h
    rw [h'] at this
    exact this
  · intro h
    exact (sto_at (m := fun y => mmk D t y nb) (k := 0) hx (by omega) h).symm
def sHold (x : Int32) (a : ZA) : Int32 × ZA := if inb x 3 = true then (nI (hld a x.toNatClampNeg (2 ^ a.2.1.1)).1, putR a [nI (hld a x.toNatClampNeg (2 ^ a.2.1.1)).2]) else (-1, a)
theorem m_hold {n : Nat} {s : ZSt} {a : ZA} (x : Int32) (hn : 5000 < n) (h : MA s a) : zT (f_M_hold n x s) (mP (sHold x a).1 (sHold x a).2 s) := by
  have hnb := h.1.2.2.2.1
  have h12 := pw_12 hnb
  generalize hr : sHold x a = r
  unfold sHold at hr
  unfold f_M_hold
  refine zT.ln (fun s1 hs1 => ?_)
  obtain ⟨hz, hE0, h00⟩ := mz h hs1
  clear hs1
  rw [inb_isTab]
  refine zT.ite (fun c => ?_) (fun c => ?_)
  · rw [if_pos c] at hr
    obtain ⟨t, ht, rfl⟩ := (inb_iff (by omega)).mp c
    rw [nI_clamp (by omega)] at hr
    refine zT.cnt (2 ^ a.2.1.1) (fun k x => x.1 = nI (hld a t k).1 ∧ x.2.1 = nI (hld a t k).2 ∧ x.2.2.1 = nI k ∧ zE p116 s1 x.2.2.2) (by omega) ⟨rfl, rfl, rfl, zE.refl _ _⟩ ?_
    rintro j k ⟨_, _, _, u⟩ hk ⟨rfl, rfl, rfl, hE⟩ hj
    dsimp only at *
    have hM := hz.s116 hE
    obtain ⟨l1, l2⟩ := hld_b a t k (by omega)
    rw [hM.2.1.1.1, shI_n (by omega)]
    refine zT.ite (fun c1 => ?_) (fun c1 => ?_)
    · rw [nI_leI (by omega) (by omega)] at c1
      have e : k = 2 ^ a.2.1.1 := by omega
      subst e
      subst hr
      refine zT.ltS ?_
      refine zT.bnT (m_ent _ hM.put0 (by simp)) ?_
      rintro v ⟨hE2, hM2⟩
      exact zT.ret ⟨rfl, hE0.trans ((p116_mo hE).trans (prm_mo (zE.trans ((zE.refl _ _).wi rfl) hE2))), hM2⟩
    · rw [nI_leI (by omega) (by omega)] at c1
      refine zT.gu (inb_n ht (by decide)) ?_
      refine zT.jnQ (fun y => y.1 = nI (hld a t (k + 1)).1 ∧ y.2.1 = nI (hld a t (k + 1)).2 ∧ zE p116 s1 y.2.2) ?_ ?_
      · rintro ⟨_, _, v⟩ ⟨rfl, rfl, q1⟩
        refine zT.ltS ?_
        rw [nI_1]
        exact hj (by omega) _ ⟨rfl, rfl, rfl, q1⟩
      · intro j11 hj11
        rw [hld_s] at hj11
        have hpk := pcn_le k
        have hr := hM.2.1.2.2.2.1 t ht
        rw [ai_n _ _ (by omega), hr.1, bc_n _ (by omega)]
        refine zT.ite (fun c2 => ?_) (fun c2 => ?_)
        · rw [nI_ltI (by omega) (by omega)] at c2
          rw [if_neg (by unfold hok; rw [decide_eq_false (show ¬ pcn k ≤ a.2.1.2.2.2.2.2 t by omega)]; simp)] at hj11
          exact hj11 _ ⟨rfl, rfl, hE⟩
        · rw [nI_ltI (by omega) (by omega)] at c2
          refine zT.bnT (m_settled (by omega) hM.2.1.1 (show k < 2 ^ a.2.1.1 by omega)) ?_
          rintro ⟨_, v⟩ ⟨rfl, hE2⟩
          dsimp only
          have hsl : stt (aD a) a.2.1.1 t k < 4096 := stt_lt (by omega)
          have hokk : hok a t k = decide (stt (aD a) a.2.1.1 t k = k) := by unfold hok; rw [decide_eq_true (show pcn k ≤ a.2.1.2.2.2.2.2 t by omega), Bool.true_and]
          refine zT.ite (fun c3 => ?_) (fun c3 => ?_)
          · have c3 : stt (aD a) a.2.1.1 t k = k := (nI_eq (a := stt (aD a) a.2.1.1 t k) (b := k) (by omega) (by omega)).mp c3
            rw [if_pos (by rw [hokk]; exact decide_eq_true c3)] at hj11
            rw [nI_1]
            refine zT.ltS (zT.ln (fun x16 hx => hj11 _ ⟨rfl, ?_, hE.trans hE2⟩))
            dsimp only
            have hpl := pcn_le (hld a t k).2
            rw [hx, bc_n _ l2]
            by_cases q : pcn k > pcn (hld a t k).2
            · rw [if_pos q, if_neg (nI_ge q (by omega))]
            · rw [if_neg q, if_pos (nI_le (by omega) (by omega))]
          · have c3 : ¬ stt (aD a) a.2.1.1 t k = k := fun w => c3 (congrArg nI w)
            rw [if_neg (by rw [hokk, decide_eq_false c3]; decide)] at hj11
            exact hj11 _ ⟨rfl, rfl, hE.trans hE2⟩
  · rw [if_neg c] at hr
    subst hr
    exact zT.ret ⟨rfl, hE0, hz⟩
theorem x_hold {n T : Nat} {s : ZSt} {a : ZA} (x : Int32) (hn : 5000 < n) (h : XX s T a) : zT (f_X_hold n x s) (xP (sHold x a).1 T (sHold x a).2 s) := by
  have hnb := h.1.2.2.2.1
  have h12 := pw_12 hnb
  have hp : 0 < 2 ^ a.2.1.1 := Nat.pos_of_ne_zero (by simp)
  obtain ⟨hA, ⟨st, hst, hB⟩, hO⟩ := id h
  generalize hr : sHold x a = r
  unfold sHold at hr
  unfold f_X_hold
  rw [inb_xTab]
  refine zT.ite (fun c => ?_) (fun c => ?_)
  · rw [if_pos c] at hr
    obtain ⟨t, ht, rfl⟩ := (inb_iff (by omega)).mp c
    rw [nI_clamp (by omega)] at hr
    refine zT.cnt (2 ^ a.2.1.1) (fun k x => x.1 = nI (hld a t k).1 ∧ x.2.1 = nI (hld a t k).2 ∧ x.2.2.1 = nI k ∧ zE pmb s x.2.2.2 ∧ XK x.2.2.2 a.2.1.1 (aD a) a.2.1.2.2.2.2.2 st) (by omega) ⟨rfl, rfl, rfl, zE.refl _ _, hB.1⟩ ?_
    rintro j k ⟨_, _, _, u⟩ hk ⟨rfl, rfl, rfl, hE, hK⟩ hj
    dsimp only at *
    obtain ⟨l1, l2⟩ := hld_b a t k (by omega)
    rw [t_all hK.1.1 hnb]
    refine zT.ite (fun c1 => ?_) (fun c1 => ?_)
    · rw [nI_ltI (by omega) (by omega)] at c1
      have e : k = 2 ^ a.2.1.1 := by omega
      subst e
      subst hr
      refine zT.ltS ?_
      have hX : XX u T a := XX.smb hA hst hB hO hE hK
      refine zT.bnT (x_tel _ hX.put0 (by simp)) ?_
      rintro v ⟨hE2, hM2⟩
      exact zT.ret ⟨rfl, (pmb_xo hE).trans (prx_xo (zE.trans ((zE.refl _ _).wi rfl) hE2)), hM2⟩
    · rw [nI_ltI (by omega) (by omega)] at c1
      refine zT.gu (inb_n ht (by decide)) ?_
      refine zT.jnQ (fun y => y.1 = nI (hld a t (k + 1)).1 ∧ y.2.1 = nI (hld a t (k + 1)).2 ∧ zE pmb s y.2.2 ∧ XK y.2.2 a.2.1.1 (aD a) a.2.1.2.2.2.2.2 st) ?_ ?_
      · rintro ⟨_, _, v⟩ ⟨rfl, rfl, q1, q2⟩
        refine zT.ltS ?_
        rw [nI_1]
        exact hj (by omega) _ ⟨rfl, rfl, rfl, q1, q2⟩
      · intro j11 hj11
        rw [hld_s] at hj11
        have hpk := pcn_le k
        have hr := hK.2.2 t ht
        rw [ai_n _ _ (by omega), hr.1, bc_n _ (by omega)]
        refine zT.ite (fun c2 => ?_) (fun c2 => ?_)
        · rw [nI_ltI (by omega) (by omega)] at c2
          rw [if_neg (by unfold hok; rw [decide_eq_false (show ¬ pcn k ≤ a.2.1.2.2.2.2.2 t by omega)]; simp)] at hj11
          exact hj11 _ ⟨rfl, rfl, hE, hK⟩
        · rw [nI_ltI (by omega) (by omega)] at c2
          refine zT.bnT (t_mayBy (by omega) hK ht (show k < 4096 by omega)) ?_
          rintro ⟨_, v⟩ ⟨rfl, hE2, hK2⟩
          dsimp only
          rw [nI_andn]
          have hnl := ndf_le k (mmk (aD a) t k a.2.1.1)
          have hokk : hok a t k = decide (stt (aD a) a.2.1.1 t k = k) := by unfold hok; rw [decide_eq_true (show pcn k ≤ a.2.1.2.2.2.2.2 t by omega), Bool.true_and]
          have hid := stt_id (D := aD a) (nb := a.2.1.1) (t := t) (x := k) (by omega)
          refine zT.ite (fun c3 => ?_) (fun c3 => ?_)
          · have c3 : stt (aD a) a.2.1.1 t k = k := hid.mpr ((nI_eq (by omega) (by decide)).mp c3)
            rw [if_pos (by rw [hokk]; exact decide_eq_true c3)] at hj11
            rw [nI_1]
            have hpl := pcn_le (hld a t k).2
            rw [bc_n _ l2]
            refine zT.ltS (zT.ite (fun q => ?_) (fun q => ?_))
            · rw [nI_leI (by omega) (by omega)] at q
              exact hj11 _ ⟨rfl, by dsimp only; rw [if_neg (by omega)], hE.trans hE2, hK2⟩
            · rw [nI_leI (by omega) (by omega)] at q
              exact hj11 _ ⟨rfl, by dsimp only; rw [if_pos (by omega)], hE.trans hE2, hK2⟩
          · have c3 : ¬ stt (aD a) a.2.1.1 t k = k := fun w => c3 (by rw [hid.mp w]; rfl)
            rw [if_neg (by rw [hokk, decide_eq_false c3]; decide)] at hj11
            exact hj11 _ ⟨rfl, rfl, hE.trans hE2, hK2⟩
  · rw [if_neg c] at hr
    subst hr
    exact zT.ret ⟨rfl, zE.refl _ _, h⟩
-- frees
def frb (a : ZA) (t b : Nat) : Nat := posA a (ups (fun _ => 0) t (2 ^ b)) t
def frs (a : ZA) (t : Nat) : Nat → Nat × Nat
  | 0 => (0, 0)
  | k + 1 => if k = 0 ∨ pcn (frb a t k) > pcn (frs a t k).2 then (k, frb a t k) else frs a t k
theorem frs_s (a : ZA) (t k : Nat) : frs a t (k + 1) = if k = 0 ∨ pcn (frb a t k) > pcn (frs a t k).2 then (k, frb a t k) else frs a t k := rfl
theorem one_ok {nb t b : Nat} (hb : b < nb) : okF nb (ups (fun _ => 0) t (2 ^ b)) := by
  have hp : 0 < 2 ^ nb := Nat.pos_of_ne_zero (by simp)
  refine ⟨fun u hu => ?_, fun i => ?_⟩
  · rw [ups_i]; split
    · exact p2_lt hb
    · exact hp
  · rw [ups_i, ups_i, ups_i]
    by_cases c0 : 0 = t
    · rw [if_pos c0, if_neg (by omega), if_neg (by omega)]; simp
    · rw [if_neg c0]; by_cases c1 : 1 = t
      · rw [if_pos c1, if_neg (by omega)]; simp
      · rw [if_neg c1]; simp
theorem frb_lt {a : ZA} {t b : Nat} (hb : b < a.2.1.1) : frb a t b < 2 ^ a.2.1.1 := pos_lt (one_ok hb)
theorem frs_b (a : ZA) (t : Nat) (hnb : a.2.1.1 ≤ 12) (k : Nat) (hk : k ≤ a.2.1.1) : (frs a t k).1 ≤ k ∧ (frs a t k).2 < 4096 := by
  have h12 := pw_12 hnb
  induction k with
  | zero => exact ⟨Nat.le_refl _, (show (0 : Nat) < 4096 by decide)⟩
  | succ k ih =>
    obtain ⟨i1, i2⟩ := ih (by omega)
    rw [frs_s]
    have := frb_lt (a := a) (t := t) (b := k) (by omega)
    split
    · exact ⟨by dsimp only; omega, by dsimp only; omega⟩
    · exact ⟨by omega, i2⟩
def sFrees (x : Int32) (a : ZA) : Int32 × ZA := if inb x 3 = true then (if a.2.1.1 = 0 then (-2, a) else (nI (frs a x.toNatClampNeg a.2.1.1).1, putR a [nI (pcn (frs a x.toNatClampNeg a.2.1.1).2), nI (frs a x.toNatClampNeg a.2.1.1).2])) else (-1, a)
theorem x_frees {n T : Nat} {s : ZSt} {a : ZA} (x : Int32) (hn : 5000 < n) (h : XX s T a) : zT (f_X_frees n x s) (xP (sFrees x a).1 T (sFrees x a).2 s) := by
  have hnb := h.1.2.2.2.1
  have h12 := pw_12 hnb
  obtain ⟨hA, ⟨st, hst, hB⟩, hO⟩ := id h
  generalize hr : sFrees x a = r
  unfold sFrees at hr
  unfold f_X_frees
  rw [inb_xTab, hB.1.1.1]
  refine zT.ite (fun c => ?_) (fun c => ?_)
  · rw [if_pos c] at hr
    obtain ⟨t, ht, rfl⟩ := (inb_iff (by omega)).mp c
    rw [nI_clamp (by omega)] at hr
    refine zT.ite (fun c0 => ?_) (fun c0 => ?_)
    · have c0 : a.2.1.1 = 0 := (nI_eq (by omega) (by decide)).mp c0
      rw [if_pos c0] at hr
      subst hr
      exact zT.ret ⟨rfl, zE.refl _ _, h⟩
    have c0 : ¬ a.2.1.1 = 0 := fun w => c0 (by rw [w]; rfl)
    rw [if_neg c0] at hr
    refine zT.bnE (t_spent (by omega) hB) ?_
    refine zT.cnt 12 (fun k x => k ≤ a.2.1.1 ∧ x.1 = nI (frs a t k).1 ∧ x.2.1 = nI (frs a t k).2 ∧ x.2.2.1 = nI k ∧ zE pmb s x.2.2.2 ∧ XK x.2.2.2 a.2.1.1 (aD a) a.2.1.2.2.2.2.2 st) (by omega) ⟨Nat.zero_le _, rfl, rfl, rfl, zE.refl _ _, hB.1⟩ ?_
    rintro j k ⟨_, _, _, u⟩ hk ⟨hkn, rfl, rfl, rfl, hE, hK⟩ hj
    dsimp only at *
    obtain ⟨l1, l2⟩ := frs_b a t hnb k hkn
    rw [hK.1.1]
    refine zT.ite (fun c1 => ?_) (fun c1 => ?_)
    · rw [nI_leI (by omega) (by omega)] at c1
      have e : k = a.2.1.1 := by omega
      subst e
      subst hr
      refine zT.ltS ?_
      have hX : XX u T a := XX.smb hA hst hB hO hE hK
      rw [bc_n _ l2]
      refine zT.bnT (x_tel _ hX.put0 (by simp)) ?_
      rintro v ⟨hE2, hM2⟩
      refine zT.bnT (x_tel _ hM2 (by simp)) ?_
      rintro w ⟨hE3, hM3⟩
      exact zT.ret ⟨rfl, (pmb_xo hE).trans (prx_xo (zE.trans ((zE.refl _ _).wi rfl) (hE2.trans hE3))), hM3⟩
    · rw [nI_leI (by omega) (by omega)] at c1
      have hwith : f_X_with (0 : Int64) (nI t) (shI (1 : Int32) (nI k)) = lN (en (ups (fun _ => 0) t (2 ^ k))) := by
        rw [shI_n (by omega)]
        have := with_e okS_0 ht (m := 2 ^ k) (Nat.lt_of_lt_of_le (p2_lt (show k < a.2.1.1 by omega)) h12)
        rw [en_0] at this
        exact this
      rw [hwith]
      refine zT.bnT (t_possible (sp := spk (loo a.2.1.2.2.2.2.1 a.2.2.2.1.2.1) a.2.1.1) (kind := t) (by omega) hK (one_ok (show k < a.2.1.1 by omega)) (by omega)) ?_
      rintro ⟨_, v⟩ ⟨rfl, hE2, hK2⟩
      dsimp only
      rw [show pos (aD a) a.2.1.1 a.2.1.2.2.2.2.2 (ups (fun _ => 0) t (2 ^ k)) (spk (loo a.2.1.2.2.2.2.1 a.2.2.2.1.2.1) a.2.1.1) t = frb a t k from rfl]
      have hfl := frb_lt (a := a) (t := t) (b := k) (by omega)
      have p1 := pcn_le (frb a t k)
      have p2 := pcn_le (frs a t k).2
      refine zT.ln (fun x11 hx => zT.ltS ?_)
      rw [nI_1]
      have e11 : x11 = (nI (frs a t (k + 1)).1, nI (frs a t (k + 1)).2) := by
        rw [hx, frs_s, bc_n _ (by omega), bc_n _ (by omega)]
        by_cases q : k = 0
        · rw [if_pos (by rw [q]; rfl), if_pos (Or.inl q)]
        · rw [if_neg (show ¬ nI k = 0 from fun w => q ((nI_eq (by omega) (by decide)).mp w))]
          by_cases q2 : pcn (frb a t k) > pcn (frs a t k).2
          · rw [if_pos (Or.inr q2), if_neg (nI_ge q2 (by omega))]
          · rw [if_neg (show ¬ (k = 0 ∨ pcn (frb a t k) > pcn (frs a t k).2) from fun w => w.elim q q2), if_pos (show nI (pcn (frb a t k)) ≤ nI (pcn (frs a t k).2) from nI_le (by omega) (by omega))]
      subst e11
      exact hj (by omega) _ ⟨by omega, rfl, rfl, rfl, hE.trans hE2, hK2⟩
  · rw [if_neg c] at hr
    subst hr
    exact zT.ret ⟨rfl, zE.refl _ _, h⟩
theorem pcn_2 : ∀ b, b < 12 → pcn (2 ^ b) = 1 := by decide
theorem m_frees {n : Nat} {s : ZSt} {a : ZA} (x : Int32) (hn : 5000 < n) (h : MA s a) : zT (f_M_frees n x s) (mP (sFrees x a).1 (sFrees x a).2 s) := by
  have hnb := h.1.2.2.2.1
  have h12 := pw_12 hnb
  generalize hr : sFrees x a = r
  unfold sFrees at hr
  unfold f_M_frees
  refine zT.ln (fun s1 hs1 => ?_)
  obtain ⟨hz, hE0, h00⟩ := mz h hs1
  clear hs1
  rw [inb_isTab]
  refine zT.ite (fun c => ?_) (fun c => ?_)
  · rw [if_pos c] at hr
    obtain ⟨t, ht, rfl⟩ := (inb_iff (by omega)).mp c
    rw [nI_clamp (by omega)] at hr
    refine zT.cnt 12 (fun k x => k ≤ a.2.1.1 ∧ x.1 = (if k = 0 then -2 else nI (frs a t k).1) ∧ x.2.1 = nI (frs a t k).2 ∧ x.2.2.1 = nI k ∧ zE p116 s1 x.2.2.2) (by omega) ⟨Nat.zero_le _, rfl, rfl, rfl, zE.refl _ _⟩ ?_
    rintro j k ⟨z, _, _, u⟩ hk ⟨hkn, hz1, rfl, rfl, hE⟩ hj
    dsimp only at *
    have hM := hz.s116 hE
    obtain ⟨l1, l2⟩ := frs_b a t hnb k hkn
    rw [hM.2.1.1.1]
    refine zT.ite (fun c1 => ?_) (fun c1 => ?_)
    · rw [nI_leI (by omega) (by omega)] at c1
      have e : k = a.2.1.1 := by omega
      subst e
      by_cases c0 : a.2.1.1 = 0
      · rw [if_pos c0] at hr hz1
        subst hr hz1
        exact zT.ie (by decide) (zT.ret ⟨rfl, hE0.trans (p116_mo hE), hM⟩)
      · rw [if_neg c0] at hr hz1
        subst hr hz1
        refine zT.it (nI_pos' (by omega)) (zT.ltS ?_)
        rw [bc_n _ l2]
        refine zT.bnT (m_ent _ hM.put0 (by simp)) ?_
        rintro v ⟨hE2, hM2⟩
        refine zT.bnT (m_ent _ hM2 (by simp)) ?_
        rintro w ⟨hE3, hM3⟩
        exact zT.ret ⟨rfl, hE0.trans ((p116_mo hE).trans (prm_mo (zE.trans ((zE.refl _ _).wi rfl) (hE2.trans hE3)))), hM3⟩
    · rw [nI_leI (by omega) (by omega)] at c1
      have hkb : k < a.2.1.1 := by omega
      refine zT.cnt 12 (fun o y => o ≤ a.2.1.1 ∧ (∃ m, y.1 = nI m ∧ m < 4096 ∧ ∀ i, m.testBit i = (decide (i < o) && (frb a t k).testBit i)) ∧ y.2.1 = nI o ∧ zE p116 s1 y.2.2) (by omega) ⟨Nat.zero_le _, ⟨0, rfl, by decide, fun i => by rw [Nat.zero_testBit, decide_eq_false (by omega), Bool.false_and]⟩, rfl, hE⟩ ?_
      rintro j11 o ⟨_, _, v⟩ ho ⟨hon, ⟨m, rfl, hm, hmb⟩, rfl, hE2⟩ hj11
      dsimp only at *
      have hM2 := hz.s116 hE2
      rw [hM2.2.1.1.1]
      have hfl := frb_lt (a := a) (t := t) (b := k) (by omega)
      refine zT.ite (fun c2 => ?_) (fun c2 => ?_)
      · rw [nI_leI (by omega) (by omega)] at c2
        have eo : o = a.2.1.1 := by omega
        subst eo
        have em : m = frb a t k := by
          apply Nat.eq_of_testBit_eq
          intro i
          rw [hmb]
          by_cases q : i < a.2.1.1
          · rw [decide_eq_true q, Bool.true_and]
          · rw [decide_eq_false q, Bool.false_and, tb_big hfl (by omega)]
        subst em
        have p1 := pcn_le (frb a t k)
        have p2 := pcn_le (frs a t k).2
        refine zT.ln (fun x11 hx => zT.ltS ?_)
        rw [nI_1]
        have e11 : x11 = (nI (frs a t (k + 1)).1, nI (frs a t (k + 1)).2) := by
          rw [hx, frs_s, bc_n _ (by omega), bc_n _ (by omega), hz1]
          by_cases q : k = 0
          · rw [if_pos q, if_pos (by decide), if_pos (Or.inl q)]
          · rw [if_neg q, if_neg (nI_pos (by omega))]
            by_cases q2 : pcn (frb a t k) > pcn (frs a t k).2
            · rw [if_pos (Or.inr q2), if_neg (nI_ge q2 (by omega))]
            · rw [if_neg (show ¬ (k = 0 ∨ pcn (frb a t k) > pcn (frs a t k).2) from fun w => w.elim q q2), if_pos (show nI (pcn (frb a t k)) ≤ nI (pcn (frs a t k).2) from nI_le (by omega) (by omega))]
        subst e11
        exact hj (by omega) _ ⟨by omega, by rw [if_neg (by omega)], rfl, rfl, hE2⟩
      · rw [nI_leI (by omega) (by omega)] at c2
        refine zT.jnQ (fun y => y.1 = nI ((frb a t k).testBit o).toNat ∧ zE p116 s1 y.2) ?_ ?_
        · rintro ⟨_, w⟩ ⟨rfl, q1⟩
          refine zT.ln (fun x19 hx => zT.ln (fun v20 hv => zT.ltS ?_))
          rw [nI_1]
          have h2 : 2 ^ o < 2 ^ 12 := Nat.pow_lt_pow_right (by decide) (by omega)
          refine hj11 (by omega) _ ⟨by omega, ⟨if (frb a t k).testBit o = true then m ||| 2 ^ o else m, ?_, ?_, fun i => ?_⟩, rfl, q1⟩
          · dsimp only
            rw [hv, hx]
            cases q : (frb a t k).testBit o
            · rw [if_pos (by rfl), if_neg (by decide), show (0 : Int32) = nI 0 from rfl, nI_or, Nat.or_zero]
            · rw [if_neg (show ¬ nI true.toNat = 0 by decide), if_pos rfl, shI_n (by omega), nI_or]
          · split
            · exact Nat.or_lt_two_pow (n := 12) hm h2
            · exact hm
          · by_cases q : (frb a t k).testBit o = true
            · rw [if_pos q, Nat.testBit_or, hmb, tb2]
              by_cases e : o = i
              · subst e; simp [q]
              · have : (i < o + 1) ↔ (i < o) := by omega
                simp [e, this]
            · rw [if_neg q, hmb]
              by_cases e : o = i
              · subst e
                have q : (frb a t k).testBit o = false := by cases w : (frb a t k).testBit o <;> simp_all
                simp [q]
              · have : (i < o + 1) ↔ (i < o) := by omega
                simp [this]
        · intro j24 hj24
          have hbit : (frb a t k).testBit o = (decide (o ≠ k) && (decide (1 < a.2.1.2.2.2.2.2 t) && (loA a o && vmy (aD a) o t (2 ^ k)))) := by
            unfold frb posA pos
            have ek : ktb t = t := by unfold ktb; rw [if_pos ht]
            have ea : anyw (ups (fun _ => 0) t (2 ^ k)) = 2 ^ k := by
              unfold anyw
              rcases (show t = 0 ∨ t = 1 ∨ t = 2 by omega) with rfl | rfl | rfl
              · show (2 ^ k ||| 0) ||| 0 = _
                rw [Nat.or_zero, Nat.or_zero]
              · show (0 ||| 2 ^ k) ||| 0 = _
                rw [Nat.or_zero, Nat.zero_or]
              · show (0 ||| 0) ||| 2 ^ k = _
                rw [Nat.or_zero, Nat.zero_or]
            rw [if_neg (by omega), ek, ups_s, ea, pcn_2 k (by omega)]
            by_cases q1 : 1 < a.2.1.2.2.2.2.2 t
            · rw [if_pos q1, if_pos ht, ndf_t, ndf_t, mmk_t, tb2, spk_t, decide_eq_true q1, decide_eq_true (show o < a.2.1.1 by omega)]
              by_cases q2 : k = o
              · subst q2; simp
              · have : o ≠ k := fun w => q2 w.symm
                simp only [q2, this, decide_false, decide_true, Bool.true_and, Bool.not_false, Bool.and_true, Bool.not_not, ne_eq, not_false_eq_true]
                rw [Bool.and_comm]
            · rw [if_neg q1, Nat.zero_testBit, decide_eq_false q1]; simp
          have no : ∀ w, (frb a t k).testBit o = false → zE p116 s1 w → zT (j24 ((0 : Int32), w)) (mP r.1 r.2 s) := fun w q hw => hj24 _ ⟨by rw [q]; rfl, hw⟩
          refine zT.jo ?_
          refine zT.ite (fun c3 => no _ ?_ hE2) (fun c3 => ?_)
          · have c3 : o = k := (nI_eq (by omega) (by omega)).mp c3
            rw [hbit, c3]; simp
          have c3 : o ≠ k := fun w => c3 (by rw [w])
          have hr := hM2.2.1.2.2.2.1 t ht
          refine zT.gu (inb_n ht (by decide)) ?_
          rw [ai_n _ _ (by omega), hr.1]
          refine zT.ite (fun c4 => no _ ?_ hE2) (fun c4 => ?_)
          · rw [show (1 : Int32) = nI 1 from rfl, nI_leI (by omega) (by omega)] at c4
            rw [hbit, decide_eq_false (show ¬ 1 < a.2.1.2.2.2.2.2 t by omega)]; simp
          rw [show (1 : Int32) = nI 1 from rfl, nI_leI (by omega) (by omega)] at c4
          refine zT.gu (inb_n (by omega) (by decide)) ?_
          rw [ai_n _ _ (by omega), ai_n _ _ (by omega), hM2.2.1.2.1 o (by omega), hM2.2.1.2.2.1 o (by omega)]
          refine zT.ite (fun c5 => no _ ?_ hE2) (fun c5 => ?_)
          · have : loA a o = false := decide_eq_false (Int32.not_lt.mpr c5)
            rw [hbit, this]; simp
          have c5 : loA a o = true := decide_eq_true (Int32.not_le.mp c5)
          rw [shI_n (by omega)]
          refine zT.bnT (m_may (by omega) hM2.2.1.1 (show o < a.2.1.1 by omega)) ?_
          rintro ⟨_, w⟩ ⟨rfl, hE3⟩
          dsimp only
          have hb2 : (frb a t k).testBit o = vmy (aD a) o t (2 ^ k) := by
            rw [hbit, decide_eq_true c3, decide_eq_true (show 1 < a.2.1.2.2.2.2.2 t by omega), c5]; rfl
          refine zT.ite (fun c6 => ?_) (fun c6 => ?_)
          · exact hj24 _ ⟨by rw [hb2, show vmy (aD a) o t (2 ^ k) = true from c6]; rfl, hE2.trans hE3⟩
          · refine no _ ?_ (hE2.trans hE3)
            rw [hb2]
            cases q : vmy (aD a) o t (2 ^ k)
            · rfl
            · exact absurd q c6
  · rw [if_neg c] at hr
    subst hr
    exact zT.ret ⟨rfl, hE0, hz⟩
end Z50
