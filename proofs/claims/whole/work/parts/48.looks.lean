-- needs, bars, least
section Z48
def lok (a : ZA) (b t set : Nat) : Bool := !set.testBit b && decide (pcn set < a.2.1.2.2.2.2.2 t) && vmy (aD a) b t set
def oth (a : ZA) (b : Nat) : Nat := ndf (2 ^ a.2.1.1 - 1) (2 ^ b)
/-- needed, ever with, the least, how many -/
def lks (a : ZA) (b t : Nat) : Nat → Nat × Nat × Nat × Nat
  | 0 => (oth a b, 0, 0, 0)
  | k + 1 => if lok a b t k = true then ((lks a b t k).1 &&& k, (lks a b t k).2.1 ||| k, if (lks a b t k).2.2.2 = 0 ∨ pcn k < pcn (lks a b t k).2.2.1 then k else (lks a b t k).2.2.1, if (lks a b t k).2.2.2 = 0 ∨ pcn k < pcn (lks a b t k).2.2.1 then 1 else if pcn k = pcn (lks a b t k).2.2.1 then (lks a b t k).2.2.2 + 1 else (lks a b t k).2.2.2) else lks a b t k
theorem lks_s (a : ZA) (b t k : Nat) : lks a b t (k + 1) = if lok a b t k = true then ((lks a b t k).1 &&& k, (lks a b t k).2.1 ||| k, if (lks a b t k).2.2.2 = 0 ∨ pcn k < pcn (lks a b t k).2.2.1 then k else (lks a b t k).2.2.1, if (lks a b t k).2.2.2 = 0 ∨ pcn k < pcn (lks a b t k).2.2.1 then 1 else if pcn k = pcn (lks a b t k).2.2.1 then (lks a b t k).2.2.2 + 1 else (lks a b t k).2.2.2) else lks a b t k := rfl
theorem lks_b (a : ZA) (b t : Nat) (hnb : a.2.1.1 ≤ 12) (k : Nat) (hk : k ≤ 4096) : (lks a b t k).1 < 4096 ∧ (lks a b t k).2.1 < 4096 ∧ (lks a b t k).2.2.1 < 4096 ∧ (lks a b t k).2.2.2 ≤ k := by
  have h12 : 2 ^ a.2.1.1 ≤ 4096 := Nat.pow_le_pow_right (n := 2) (by decide) hnb
  induction k with
  | zero => exact ⟨Nat.lt_of_le_of_lt (ndf_le _ _) (by omega), (show (0 : Nat) < 4096 by decide), (show (0 : Nat) < 4096 by decide), Nat.le_refl _⟩
  | succ k ih =>
    obtain ⟨i1, i2, i3, i4⟩ := ih (by omega)
    rw [lks_s]
    split
    · refine ⟨Nat.lt_of_le_of_lt Nat.and_le_left i1, Nat.or_lt_two_pow (n := 12) i2 (show k < 2 ^ 12 by omega), ?_, ?_⟩
      · dsimp only
        split <;> omega
      · dsimp only
        split
        · omega
        · split <;> omega
    · exact ⟨i1, i2, i3, by omega⟩
def plk : Nat → Nat → Bool := fun o j => o == 116 || (o == 0 && (j == 32 || j == 33 || j == 34 || j == 35))
theorem plk_mo {s t : ZSt} (h : zE plk s t) : zE pMo s t := h.mono (fun o j e => by simp [pMo, plk] at *; omega)
theorem MA.lk {s t : ZSt} {a : ZA} (h : MA s a) (hE : zE plk s t) : MA t a := h.fr hE (fun o j e => by simp [qM, plk] at *; omega)
def lsI (l : Nat × Nat × Nat × Nat) : Int32 := if l.2.2.2 = 0 then -1 else nI l.2.2.1
theorem pw_12 {nb : Nat} (h : nb ≤ 12) : 2 ^ nb ≤ 4096 := Nat.pow_le_pow_right (n := 2) (by decide) h
theorem m_looks {n b t : Nat} {s : ZSt} {a : ZA} (hn : 5000 < n) (h : MA s a) (hb : b < a.2.1.1) (ht : t < 3) : zT (f_M_looks n (nI b) (nI t) s) (fun q => q.1 = decide ((lks a b t (2 ^ a.2.1.1)).2.2.2 ≠ 0) ∧ zE plk s q.2 ∧ MA q.2 a ∧ gi q.2 0 32 = nI (lks a b t (2 ^ a.2.1.1)).1 ∧ gi q.2 0 33 = nI (lks a b t (2 ^ a.2.1.1)).2.1 ∧ gi q.2 0 34 = lsI (lks a b t (2 ^ a.2.1.1)) ∧ gi q.2 0 35 = nI (lks a b t (2 ^ a.2.1.1)).2.2.2) := by
  have hnb := h.1.2.2.2.1
  have h12 := pw_12 hnb
  have hp : 0 < 2 ^ a.2.1.1 := Nat.pos_of_ne_zero (by simp)
  unfold f_M_looks
  rw [h.2.1.1.1, shI_n (by omega), shI_n (by omega), show (1 : Int32) = nI 1 from rfl, pk_sub hp, ← show (1 : Int32) = nI 1 from rfl, nI_andn]
  refine zT.ltS (zT.ltS (zT.ltS (zT.ltS ?_)))
  refine zT.cnt (2 ^ a.2.1.1) (fun k x => x.1 = nI k ∧ zE plk s x.2 ∧ gi x.2 0 32 = nI (lks a b t k).1 ∧ gi x.2 0 33 = nI (lks a b t k).2.1 ∧ gi x.2 0 34 = lsI (lks a b t k) ∧ gi x.2 0 35 = nI (lks a b t k).2.2.2) (by omega) ⟨rfl, (((((zE.refl _ _).wi rfl).wi rfl).wi rfl).wi rfl), rfl, rfl, rfl, rfl⟩ ?_
  rintro j k ⟨_, u⟩ hk ⟨rfl, hE, g1, g2, g3, g4⟩ hj
  dsimp only at *
  have hM := h.lk hE
  obtain ⟨l1, l2, l3, l4⟩ := lks_b a b t hnb k (by omega)
  rw [hM.2.1.1.1, shI_n (by omega)]
  refine zT.ite (fun c => ?_) (fun c => ?_)
  · rw [nI_leI (by omega) (by omega)] at c
    have e : k = 2 ^ a.2.1.1 := by omega
    subst e
    rw [g3]
    unfold lsI at g3 ⊢
    by_cases q : (lks a b t (2 ^ a.2.1.1)).2.2.2 = 0
    · rw [if_pos q] at g3 ⊢
      exact zT.it (by decide) (zT.ret ⟨(decide_eq_false (fun w => w q)).symm, hE, hM, g1, g2, g3, g4⟩)
    · rw [if_neg q] at g3 ⊢
      exact zT.ie (nI_pos (by omega)) (zT.ret ⟨(decide_eq_true q).symm, hE, hM, g1, g2, g3, g4⟩)
  · rw [nI_leI (by omega) (by omega)] at c
    refine zT.jnQ (fun y => zE plk s y ∧ gi y 0 32 = nI (lks a b t (k + 1)).1 ∧ gi y 0 33 = nI (lks a b t (k + 1)).2.1 ∧ gi y 0 34 = lsI (lks a b t (k + 1)) ∧ gi y 0 35 = nI (lks a b t (k + 1)).2.2.2) ?_ ?_
    · rintro y ⟨q1, q2⟩
      refine zT.ltS ?_
      rw [nI_1]
      exact hj (by omega) _ ⟨rfl, q1, q2⟩
    · intro j11 hj11
      rw [lks_s] at hj11
      have skip : ∀ v, lok a b t k = false → zE p116 u v → zT (j11 v) (fun q => q.1 = decide ((lks a b t (2 ^ a.2.1.1)).2.2.2 ≠ 0) ∧ zE plk s q.2 ∧ MA q.2 a ∧ gi q.2 0 32 = nI (lks a b t (2 ^ a.2.1.1)).1 ∧ gi q.2 0 33 = nI (lks a b t (2 ^ a.2.1.1)).2.1 ∧ gi q.2 0 34 = lsI (lks a b t (2 ^ a.2.1.1)) ∧ gi q.2 0 35 = nI (lks a b t (2 ^ a.2.1.1)).2.2.2) := fun v q hv => by
        rw [if_neg (by rw [q]; decide)] at hj11
        exact hj11 _ ⟨hE.trans (hv.mono (fun o j e => by simp [plk, p116] at *; omega)), (hv.i rfl).trans g1, (hv.i rfl).trans g2, (hv.i rfl).trans g3, (hv.i rfl).trans g4⟩
      rw [has_n (by omega) (by omega)]
      have hr := hM.2.1.2.2.2.1 t ht
      have hpk := pcn_le k
      refine zT.ite (fun c1 => skip _ (by unfold lok; rw [c1]; rfl) (zE.refl _ _)) (fun c1 => ?_)
      have c1 : k.testBit b = false := by cases q : k.testBit b <;> simp_all
      refine zT.gu (inb_n ht (by decide)) ?_
      rw [ai_n _ _ (by omega), hr.1, bc_n _ (by omega)]
      refine zT.ite (fun c2 => ?_) (fun c2 => ?_)
      · rw [nI_leI (by omega) (by omega)] at c2
        exact skip _ (by unfold lok; rw [decide_eq_false (show ¬ pcn k < a.2.1.2.2.2.2.2 t by omega), Bool.and_false]; rfl) (zE.refl _ _)
      · rw [nI_leI (by omega) (by omega)] at c2
        refine zT.bnT (m_may (by omega) hM.2.1.1 hb) ?_
        rintro ⟨_, v⟩ ⟨rfl, hE2⟩
        dsimp only
        refine zT.ite (fun c3 => ?_) (fun c3 => ?_)
        · have hlk : lok a b t k = true := by
            unfold lok
            rw [c1, decide_eq_true (show pcn k < a.2.1.2.2.2.2.2 t by omega)]
            exact c3
          rw [if_pos hlk] at hj11
          have e32 : gi v 0 32 = nI (lks a b t k).1 := (hE2.i rfl).trans g1
          have e33 : gi v 0 33 = nI (lks a b t k).2.1 := (hE2.i rfl).trans g2
          have e34 : gi v 0 34 = lsI (lks a b t k) := (hE2.i rfl).trans g3
          have e35 : gi v 0 35 = nI (lks a b t k).2.2.2 := (hE2.i rfl).trans g4
          rw [e32, nI_and]
          refine zT.ltS ?_
          rw [show gi (si v 0 32 (nI ((lks a b t k).1 &&& k))) 0 33 = gi v 0 33 from rfl, e33, nI_or]
          refine zT.ln (fun s18 hs18 => ?_)
          have f34 : gi s18 0 34 = lsI (lks a b t k) := by rw [hs18]; exact e34
          have f35 : gi s18 0 35 = nI (lks a b t k).2.2.2 := by rw [hs18]; exact e35
          have f32 : gi s18 0 32 = nI ((lks a b t k).1 &&& k) := by rw [hs18]; rfl
          have f33 : gi s18 0 33 = nI ((lks a b t k).2.1 ||| k) := by rw [hs18]; rfl
          have hE3 : zE plk s s18 := by rw [hs18]; exact ((hE.trans (hE2.mono (fun o j e => by simp [plk, p116] at *; omega))).wi rfl).wi rfl
          clear hs18
          refine zT.ln (fun x19 hx19 => zT.ln (fun x20 hx20 => ?_))
          have hpl := pcn_le (lks a b t k).2.2.1
          have hneg : 0 ≤ x19 ↔ ¬ ((lks a b t k).2.2.2 = 0 ∨ pcn k < pcn (lks a b t k).2.2.1) := by
            rw [hx19, f34]
            unfold lsI
            by_cases q : (lks a b t k).2.2.2 = 0
            · rw [if_pos q, if_neg (by decide)]
              exact ⟨fun w => absurd w (by decide), fun w => absurd (Or.inl q) w⟩
            · rw [if_neg q, if_pos (nI_pos' (by omega)), bc_n _ (by omega), Int32.le_iff_toInt_le, pk_sub_toInt (by omega) (by omega), show (0 : Int32).toInt = 0 from rfl]
              omega
          have hz : ¬ ((lks a b t k).2.2.2 = 0 ∨ pcn k < pcn (lks a b t k).2.2.1) → (x19 = 0 ↔ pcn k = pcn (lks a b t k).2.2.1) := by
            intro hq
            have q : ¬ (lks a b t k).2.2.2 = 0 := fun w => hq (Or.inl w)
            rw [hx19, f34]
            unfold lsI
            rw [if_neg q, if_pos (nI_pos' (by omega)), bc_n _ (by omega), ← Int32.toInt_inj, pk_sub_toInt (by omega) (by omega), show (0 : Int32).toInt = 0 from rfl]
            omega
          have e20 : x20 = nI (if (lks a b t k).2.2.2 = 0 ∨ pcn k < pcn (lks a b t k).2.2.1 then 1 else if pcn k = pcn (lks a b t k).2.2.1 then (lks a b t k).2.2.2 + 1 else (lks a b t k).2.2.2) := by
            rw [hx20, f35]
            by_cases q : (lks a b t k).2.2.2 = 0 ∨ pcn k < pcn (lks a b t k).2.2.1
            · rw [if_pos q, if_neg (fun w => hneg.mp w q)]; rfl
            · rw [if_neg q, if_pos (hneg.mpr q)]
              by_cases q2 : pcn k = pcn (lks a b t k).2.2.1
              · rw [if_pos q2, if_pos ((hz q).mpr q2), flag_t, nI_add]; rfl
              · rw [if_neg q2, if_neg (fun w => q2 ((hz q).mp w)), flag_t, nI_add]; rfl
          rw [e20]
          refine zT.ltS (zT.ln (fun x22 hx22 => ?_))
          have e22 : x22 = nI (if (lks a b t k).2.2.2 = 0 ∨ pcn k < pcn (lks a b t k).2.2.1 then k else (lks a b t k).2.2.1) := by
            rw [hx22, show gi (si s18 0 35 (nI (if (lks a b t k).2.2.2 = 0 ∨ pcn k < pcn (lks a b t k).2.2.1 then 1 else if pcn k = pcn (lks a b t k).2.2.1 then (lks a b t k).2.2.2 + 1 else (lks a b t k).2.2.2))) 0 34 = gi s18 0 34 from rfl, f34]
            by_cases q : (lks a b t k).2.2.2 = 0 ∨ pcn k < pcn (lks a b t k).2.2.1
            · rw [if_pos q, if_neg (fun w => hneg.mp w q)]
            · rw [if_neg q, if_pos (hneg.mpr q)]
              unfold lsI
              rw [if_neg (fun w => q (Or.inl w))]
          rw [e22]
          refine zT.ltS (hj11 _ ⟨(hE3.wi rfl).wi rfl, f32, f33, ?_, rfl⟩)
          show nI _ = lsI _
          unfold lsI
          dsimp only
          refine (if_neg ?_).symm
          by_cases q : (lks a b t k).2.2.2 = 0 ∨ pcn k < pcn (lks a b t k).2.2.1
          · rw [if_pos q]; decide
          · rw [if_neg q]
            split
            · omega
            · exact fun w => q (Or.inl w)
        · have c3' : vmy (aD a) b t k = false := by
            cases w : vmy (aD a) b t k
            · rfl
            · exact absurd w c3
          exact skip _ (by unfold lok; rw [c3', Bool.and_false]) hE2
def sNeeds (x y : Int32) (a : ZA) : Int32 := if inb x a.2.1.1 = true ∧ inb y 3 = true then nI (lks a x.toNatClampNeg y.toNatClampNeg (2 ^ a.2.1.1)).1 else -1
def sBars (x y : Int32) (a : ZA) : Int32 := if inb x a.2.1.1 = true ∧ inb y 3 = true then nI (ndf (oth a x.toNatClampNeg) (lks a x.toNatClampNeg y.toNatClampNeg (2 ^ a.2.1.1)).2.1) else -1
def sLeast (x y : Int32) (a : ZA) : Int32 × ZA := if inb x a.2.1.1 = true ∧ inb y 3 = true then (if (lks a x.toNatClampNeg y.toNatClampNeg (2 ^ a.2.1.1)).2.2.2 = 0 then (-2, a) else (nI (pcn (lks a x.toNatClampNeg y.toNatClampNeg (2 ^ a.2.1.1)).2.2.1), putR a [nI (lks a x.toNatClampNeg y.toNatClampNeg (2 ^ a.2.1.1)).2.2.1, nI (lks a x.toNatClampNeg y.toNatClampNeg (2 ^ a.2.1.1)).2.2.2])) else (-1, a)
theorem m_needs {n : Nat} {s : ZSt} {a : ZA} (x y : Int32) (hn : 5000 < n) (h : MA s a) : zT (f_M_needs n x y s) (mP (sNeeds x y a) a s) := by
  have hnb := h.1.2.2.2.1
  generalize hr : sNeeds x y a = r
  unfold sNeeds at hr
  unfold f_M_needs
  refine zT.ln (fun s1 hs1 => ?_)
  obtain ⟨hz, hE0, h00⟩ := mz h hs1
  clear hs1
  rw [inb_isBook hz.2.1.1.1 hnb, inb_isTab]
  refine zT.ite (fun c1 => ?_) (fun c1 => ?_)
  · refine zT.ite (fun c2 => ?_) (fun c2 => ?_)
    · rw [if_pos ⟨c1, c2⟩] at hr
      obtain ⟨b, hb, rfl⟩ := (inb_iff (by omega)).mp c1
      obtain ⟨t, ht, rfl⟩ := (inb_iff (by omega)).mp c2
      rw [nI_clamp (by omega), nI_clamp (by omega)] at hr
      subst hr
      refine zT.bnT (m_looks hn hz hb ht) ?_
      rintro ⟨_, u⟩ ⟨_, hE, hM, g1, _⟩
      exact zT.ret ⟨g1, hE0.trans (plk_mo hE), hM⟩
    · rw [if_neg (fun q => c2 q.2)] at hr; subst hr; exact zT.ret ⟨rfl, hE0, hz⟩
  · rw [if_neg (fun q => c1 q.1)] at hr; subst hr; exact zT.ret ⟨rfl, hE0, hz⟩
theorem m_bars {n : Nat} {s : ZSt} {a : ZA} (x y : Int32) (hn : 5000 < n) (h : MA s a) : zT (f_M_bars n x y s) (mP (sBars x y a) a s) := by
  have hnb := h.1.2.2.2.1
  generalize hr : sBars x y a = r
  unfold sBars at hr
  unfold f_M_bars
  refine zT.ln (fun s1 hs1 => ?_)
  obtain ⟨hz, hE0, h00⟩ := mz h hs1
  clear hs1
  rw [inb_isBook hz.2.1.1.1 hnb, inb_isTab]
  refine zT.ite (fun c1 => ?_) (fun c1 => ?_)
  · refine zT.ite (fun c2 => ?_) (fun c2 => ?_)
    · rw [if_pos ⟨c1, c2⟩] at hr
      obtain ⟨b, hb, rfl⟩ := (inb_iff (by omega)).mp c1
      obtain ⟨t, ht, rfl⟩ := (inb_iff (by omega)).mp c2
      rw [nI_clamp (by omega), nI_clamp (by omega)] at hr
      subst hr
      refine zT.bnT (m_looks hn hz hb ht) ?_
      rintro ⟨_, u⟩ ⟨_, hE, hM, g1, g2, _⟩
      dsimp only at *
      refine zT.ret ⟨?_, hE0.trans (plk_mo hE), hM⟩
      have hp : 0 < 2 ^ a.2.1.1 := Nat.pos_of_ne_zero (by simp)
      rw [hM.2.1.1.1, g2, shI_n (by omega), shI_n (by omega), show (1 : Int32) = nI 1 from rfl, pk_sub hp, ← show (1 : Int32) = nI 1 from rfl, nI_andn, nI_andn]; rfl
    · rw [if_neg (fun q => c2 q.2)] at hr; subst hr; exact zT.ret ⟨rfl, hE0, hz⟩
  · rw [if_neg (fun q => c1 q.1)] at hr; subst hr; exact zT.ret ⟨rfl, hE0, hz⟩
theorem m_least {n : Nat} {s : ZSt} {a : ZA} (x y : Int32) (hn : 5000 < n) (h : MA s a) : zT (f_M_least n x y s) (mP (sLeast x y a).1 (sLeast x y a).2 s) := by
  have hnb := h.1.2.2.2.1
  have h12 := pw_12 hnb
  generalize hr : sLeast x y a = r
  unfold sLeast at hr
  unfold f_M_least
  refine zT.ln (fun s1 hs1 => ?_)
  obtain ⟨hz, hE0, h00⟩ := mz h hs1
  clear hs1
  rw [inb_isBook hz.2.1.1.1 hnb, inb_isTab]
  refine zT.ite (fun c1 => ?_) (fun c1 => ?_)
  · refine zT.ite (fun c2 => ?_) (fun c2 => ?_)
    · rw [if_pos ⟨c1, c2⟩] at hr
      obtain ⟨b, hb, rfl⟩ := (inb_iff (by omega)).mp c1
      obtain ⟨t, ht, rfl⟩ := (inb_iff (by omega)).mp c2
      rw [nI_clamp (by omega), nI_clamp (by omega)] at hr
      obtain ⟨l1, l2, l3, l4⟩ := lks_b a b t hnb (2 ^ a.2.1.1) (by omega)
      refine zT.bnT (m_looks hn hz hb ht) ?_
      rintro ⟨_, u⟩ ⟨rfl, hE, hM, g1, g2, g3, g4⟩
      dsimp only at *
      refine zT.ite (fun c3 => ?_) (fun c3 => ?_)
      · rw [decide_eq_true_eq] at c3
        rw [if_neg c3] at hr
        subst hr
        unfold lsI at g3
        rw [if_neg c3] at g3
        refine zT.ltS ?_
        rw [show gi (si u 0 1 0) 0 34 = gi u 0 34 from rfl, g3]
        refine zT.bnT (m_ent _ hM.put0 (by simp)) ?_
        rintro v ⟨hE2, hM2⟩
        have e35 : gi v 0 35 = nI (lks a b t (2 ^ a.2.1.1)).2.2.2 := (hE2.i rfl).trans g4
        rw [e35]
        refine zT.bnT (m_ent _ hM2 (by simp)) ?_
        rintro w ⟨hE3, hM3⟩
        refine zT.ret ⟨?_, hE0.trans ((plk_mo hE).trans (prm_mo (zE.trans ((zE.refl _ _).wi rfl) (hE2.trans hE3)))), hM3⟩
        show f_J_bitCount (gi w 0 34) = _
        rw [hE3.i rfl, hE2.i rfl, show gi (si u 0 1 0) 0 34 = gi u 0 34 from rfl, g3, bc_n _ (by omega)]
      · rw [decide_eq_true_eq] at c3
        rw [if_pos (Classical.byContradiction c3)] at hr
        subst hr
        exact zT.ret ⟨rfl, hE0.trans (plk_mo hE), hM⟩
    · rw [if_neg (fun q => c2 q.2)] at hr; subst hr; exact zT.ret ⟨rfl, hE0, hz⟩
  · rw [if_neg (fun q => c1 q.1)] at hr; subst hr; exact zT.ret ⟨rfl, hE0, hz⟩
end Z48
