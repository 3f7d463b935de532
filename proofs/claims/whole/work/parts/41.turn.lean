-- what a reader does in an hour
section Z41
def lef (a : ZA) (r : Nat) : Nat := ndf (a.2.2.1.2.2 r) (a.2.2.2.1.2.2.1 r)
def loA (a : ZA) : Nat → Bool := loo a.2.1.2.2.2.2.1 a.2.2.2.1.2.1
def posA (a : ZA) (f : Nat → Nat) (kind : Nat) : Nat := pos (aD a) a.2.1.1 a.2.1.2.2.2.2.2 f (spk (loA a) a.2.1.1) kind
def aftA (a : ZA) (k : Nat) : Nat → Nat := aft (aD a) a.2.1.1 a.2.2.2.1.1 k
def hlp (a : ZA) (left t k : Nat) : Bool := decide (left &&& posA a (aftA a k) t ≠ 0)
def trn (a : ZA) (r : Nat) : Int32 × ZA :=
  if lef a r &&& a.2.2.2.1.1 (a.2.2.2.1.2.2.2.1 r) ≠ 0 then (nI (20 + low (lef a r &&& a.2.2.2.1.1 (a.2.2.2.1.2.2.2.1 r))), afin a r (low (lef a r &&& a.2.2.2.1.1 (a.2.2.2.1.2.2.2.1 r))))
  else if fo (lef a r &&& posA a a.2.2.2.1.1 (a.2.2.2.1.2.2.2.1 r)).testBit ≠ -1 then (40 + fo (lef a r &&& posA a a.2.2.2.1.1 (a.2.2.2.1.2.2.2.1 r)).testBit, aact a (20 * a.2.2.2.1.2.2.2.1 r + (fo (lef a r &&& posA a a.2.2.2.1.1 (a.2.2.2.1.2.2.2.1 r)).testBit).toNatClampNeg))
  else if fo (fun b => (posA a a.2.2.2.1.1 (a.2.2.2.1.2.2.2.1 r)).testBit b && hlp a (lef a r) (a.2.2.2.1.2.2.2.1 r) (20 * a.2.2.2.1.2.2.2.1 r + b)) ≠ -1 then
    (40 + fo (fun b => (posA a a.2.2.2.1.1 (a.2.2.2.1.2.2.2.1 r)).testBit b && hlp a (lef a r) (a.2.2.2.1.2.2.2.1 r) (20 * a.2.2.2.1.2.2.2.1 r + b)), aact a (20 * a.2.2.2.1.2.2.2.1 r + (fo (fun b => (posA a a.2.2.2.1.1 (a.2.2.2.1.2.2.2.1 r)).testBit b && hlp a (lef a r) (a.2.2.2.1.2.2.2.1 r) (20 * a.2.2.2.1.2.2.2.1 r + b))).toNatClampNeg))
  else if fo (fun b => (a.2.2.2.1.1 (a.2.2.2.1.2.2.2.1 r)).testBit b && hlp a (lef a r) (a.2.2.2.1.2.2.2.1 r) (60 + b)) ≠ -1 then
    (60 + fo (fun b => (a.2.2.2.1.1 (a.2.2.2.1.2.2.2.1 r)).testBit b && hlp a (lef a r) (a.2.2.2.1.2.2.2.1 r) (60 + b)), aact a (60 + (fo (fun b => (a.2.2.2.1.1 (a.2.2.2.1.2.2.2.1 r)).testBit b && hlp a (lef a r) (a.2.2.2.1.2.2.2.1 r) (60 + b))).toNatClampNeg))
  else (0, a)
theorem nz_bit {x : Nat} (h : x ≠ 0) : ∃ i, x.testBit i = true := by
  apply Classical.byContradiction
  intro hn
  apply h
  apply Nat.eq_of_testBit_eq
  intro i
  rw [Nat.zero_testBit]
  cases q : x.testBit i
  · rfl
  · exact absurd ⟨i, q⟩ hn
set_option maxRecDepth 100000 in
theorem low_le : ∀ x, x < 4096 → low x ≤ 12 := by64 (by decide +kernel)
theorem loo_ne {lim opn : Nat → Int32} {k b : Nat} (h : k < 60 → b ≠ k % 20) : loo lim (opa opn k) b = loo lim opn b := by
  unfold loo opa
  split
  · rw [ups_n _ _ (h (by assumption))]
  · rfl
theorem hlp_iff {a : ZA} {left t k : Nat} (hnb : a.2.1.1 ≤ 12) (hl : left < 2 ^ a.2.1.1) (ht : t < 3) (hk : k < 60 → left.testBit (k % 20) = false) :
    ¬ fo (fun b => left.testBit b && decide (wy (aD a) a.2.1.2.2.2.2.2 (aftA a k) (loo a.2.1.2.2.2.2.1 (opa a.2.2.2.1.2.1 k)) (20 * t + b) = 0)) < 0 ↔ hlp a left t k = true := by
  unfold hlp
  rw [decide_eq_true_eq]
  have key : ∀ b, b < 12 → left.testBit b = true → (posA a (aftA a k) t).testBit b = decide (wy (aD a) a.2.1.2.2.2.2.2 (aftA a k) (loo a.2.1.2.2.2.2.1 (opa a.2.2.2.1.2.1 k)) (20 * t + b) = 0) := by
    intro b hb hlb
    have hbn : b < a.2.1.1 := by
      rcases Nat.lt_or_ge b a.2.1.1 with q | q
      · exact q
      · rw [tb_big hl q] at hlb; cases hlb
    unfold posA
    rw [pos_bit ht (by omega), decide_eq_true hbn, Bool.true_and]
    have e1 : (20 * t + b) % 20 = b := by omega
    have e2 : loo a.2.1.2.2.2.2.1 (opa a.2.2.2.1.2.1 k) b = loA a b := loo_ne (fun q e => by rw [e, hk q] at hlb; cases hlb)
    rw [wy_lo (lo' := loo a.2.1.2.2.2.2.1 (opa a.2.2.2.1.2.1 k)) (lo := loA a) (by rw [e1]; exact e2)]
  rcases fo_cases (fun b => left.testBit b && decide (wy (aD a) a.2.1.2.2.2.2.2 (aftA a k) (loo a.2.1.2.2.2.2.1 (opa a.2.2.2.1.2.1 k)) (20 * t + b) = 0)) with ⟨e, hn⟩ | ⟨b, hb, e, h1, _⟩
  · rw [e]
    constructor
    · intro h; exact absurd (by decide) h
    · intro h
      exfalso
      obtain ⟨i, hi⟩ := nz_bit h
      rw [Nat.testBit_and, Bool.and_eq_true] at hi
      have hi12 : i < 12 := by
        rcases Nat.lt_or_ge i 12 with q | q
        · exact q
        · rw [tb_big hl (by omega)] at hi; cases hi.1
      have := hn i hi12
      rw [← key i hi12 hi.1, hi.1, hi.2] at this
      cases this
  · rw [e]
    refine ⟨fun _ h0 => ?_, fun _ => nI_pos (by omega)⟩
    rw [Bool.and_eq_true] at h1
    have h2 := key b hb h1.1
    have : (left &&& posA a (aftA a k) t).testBit b = true := by rw [Nat.testBit_and, h1.1, h2, h1.2]; rfl
    rw [h0, Nat.zero_testBit] at this
    cases this
theorem lef_lt {a : ZA} (h : okA a) {r : Nat} (hr : r < a.2.2.1.1) : lef a r < 2 ^ a.2.1.1 := Nat.lt_of_le_of_lt (ndf_le _ _) (h.2.2.2.2.2.2.1 r hr).2
theorem fo_m1 {p : Nat → Bool} (h : ¬ fo p < 0) : ∃ b, b < 12 ∧ fo p = nI b ∧ p b = true := by
  rcases fo_cases p with ⟨e, _⟩ | ⟨b, hb, e, h1, _⟩
  · rw [e] at h; exact absurd (by decide) h
  · exact ⟨b, hb, e, h1⟩
theorem fo_lt {p : Nat → Bool} : fo p < 0 ↔ fo p = -1 := by
  rcases fo_cases p with ⟨e, _⟩ | ⟨b, hb, e, h1, _⟩
  · rw [e]; exact ⟨fun _ => rfl, fun _ => by decide⟩
  · rw [e]; exact ⟨fun h => absurd h (nI_pos (by omega)), fun h => absurd h (nI_not_m1 (by omega))⟩
def pdo : Nat → Nat → Bool := fun o _ => o == 116 || o == 108 || o == 105 || o == 123 || o == 124 || o == 113
theorem pdo_mo {s t : ZSt} (h : zE pdo s t) : zE pMo s t := h.mono (fun o j e => by simp [pMo, pdo] at *; omega)
theorem phl_do {s t : ZSt} (h : zE phl s t) : zE pdo s t := h.mono (fun o j e => by simp [phl, pdo] at *; omega)
theorem MA.hl {s t : ZSt} {a : ZA} (h : MA s a) (hE : zE phl s t) (hC : MC t a) : MA t a := h.put hE (fun o j e1 e2 => by simp [qM, phl] at *; omega) (lim := a.2.1.2.2.2.2.1) (rm := a.2.1.2.2.2.2.2) (f := a.2.2.2.1.1) (opn := a.2.2.2.1.2.1) h.1 hC
set_option maxHeartbeats 2000000 in
theorem m_does {n r : Nat} {s : ZSt} {a : ZA} (hn : 60 < n) (h : MA s a) (hr : r < a.2.2.1.1) : zT (f_M_does n (nI r) s) (fun q => q.1 = (trn a r).1 ∧ zE pdo s q.2 ∧ MA q.2 (trn a r).2) := by
  have hnb := h.1.2.2.2.1
  have hnr := h.1.2.2.2.2.2.1
  have hC := h.2.1
  have ht := (h.1.2.2.2.2.2.2.2.1.2.2.1 r hr).2
  have hF := h.1.2.2.2.2.2.2.2.1.1
  have hl := lef_lt h.1 hr
  have h12 : 2 ^ a.2.1.1 ≤ 4096 := Nat.pow_le_pow_right (n := 2) (by decide) hnb
  generalize hx : trn a r = x
  unfold trn at hx
  unfold f_M_does
  refine zT.gu (inb_n (by omega) (by decide)) ?_
  rw [ai_n _ _ (by omega), (h.2.2.2.2.2.1 r hr).1]
  refine zT.ltS (zT.bnE (m_leftOf h hr) (zT.gu (inb_n ht (by decide)) ?_))
  rw [ai_n _ _ (by omega)]
  rw [show gi s 108 (a.2.2.2.1.2.2.2.1 r) = nI (a.2.2.2.1.1 (a.2.2.2.1.2.2.2.1 r)) from hC.2.2.2.2.1 _ ht, nI_and]
  refine zT.ltS ?_
  rw [show ndf (a.2.2.1.2.2 r) (a.2.2.2.1.2.2.1 r) = lef a r from rfl]
  have hand : lef a r &&& a.2.2.2.1.1 (a.2.2.2.1.2.2.2.1 r) < 2 ^ a.2.1.1 := Nat.lt_of_le_of_lt Nat.and_le_left hl
  refine zT.ite (fun c => ?_) (fun c => ?_)
  · have c0 : lef a r &&& a.2.2.2.1.1 (a.2.2.2.1.2.2.2.1 r) = 0 := (nI_eq (by omega) (by omega)).mp c
    rw [if_neg (fun q => q c0)] at hx
    refine zT.bnT (m_firstOpen hn hC hl ht) ?_
    rintro ⟨z, u⟩ ⟨hz, hE⟩
    dsimp only at *
    have ez : fo (fun b => (lef a r).testBit b && decide (wy (dD a.2.1 a.2.2.1 a.2.2.2.1) a.2.1.2.2.2.2.2 a.2.2.2.1.1 (loo a.2.1.2.2.2.2.1 a.2.2.2.1.2.1) (20 * a.2.2.2.1.2.2.2.1 r + b) = 0)) = fo (lef a r &&& posA a a.2.2.2.1.1 (a.2.2.2.1.2.2.2.1 r)).testBit := fo_congr (fun b hb => by
      rw [Nat.testBit_and]
      unfold posA
      rw [pos_bit ht (by omega)]
      cases q : (lef a r).testBit b
      · rfl
      · have hbn : b < a.2.1.1 := by
          rcases Nat.lt_or_ge b a.2.1.1 with w | w
          · exact w
          · rw [tb_big hl w] at q; cases q
        rw [decide_eq_true hbn]; rfl)
    rw [ez] at hz
    have hM := h.s116 hE
    refine zT.jnQ (fun y => zE pdo s y.2 ∧ MA y.2 a ∧ y.1 = (if fo (lef a r &&& posA a a.2.2.2.1.1 (a.2.2.2.1.2.2.2.1 r)).testBit ≠ -1 then fo (lef a r &&& posA a a.2.2.2.1.1 (a.2.2.2.1.2.2.2.1 r)).testBit else fo (fun b => (posA a a.2.2.2.1.1 (a.2.2.2.1.2.2.2.1 r)).testBit b && hlp a (lef a r) (a.2.2.2.1.2.2.2.1 r) (20 * a.2.2.2.1.2.2.2.1 r + b)))) ?_ ?_
    · rintro ⟨y, v⟩ ⟨hE2, hM2, hy⟩
      dsimp only at *
      have mk : ∀ b, b < 12 → b < a.2.1.1 → y = nI b → awy a (20 * a.2.2.2.1.2.2.2.1 r + b) = 0 → x = (40 + y, aact a (20 * a.2.2.2.1.2.2.2.1 r + y.toNatClampNeg)) → zT (bn (f_M_makes n (((20 : Int32) * nI (a.2.2.2.1.2.2.2.1 r)) + y) v) (fun p20 => some (((40 : Int32) + y), p20.2))) (fun q => q.1 = x.1 ∧ zE pdo s q.2 ∧ MA q.2 x.2) := by
        rintro b hb hbn rfl hw rfl
        rw [show (20 : Int32) = nI 20 from rfl, nI_mulL, nI_add, nI_clamp (by omega)]
        refine zT.bnT (m_make hn hM2 (by omega) (by omega) hw) ?_
        rintro ⟨_, w⟩ ⟨_, hE3, hM3⟩
        exact zT.ret ⟨rfl, hE2.trans (hE3.mono (fun o j e => by simp [pdo, pmak] at *; omega)), hM3⟩
      by_cases c1 : fo (lef a r &&& posA a a.2.2.2.1.1 (a.2.2.2.1.2.2.2.1 r)).testBit = -1
      · rw [if_neg (fun q => q c1)] at hx hy
        by_cases c2 : fo (fun b => (posA a a.2.2.2.1.1 (a.2.2.2.1.2.2.2.1 r)).testBit b && hlp a (lef a r) (a.2.2.2.1.2.2.2.1 r) (20 * a.2.2.2.1.2.2.2.1 r + b)) = -1
        · rw [if_neg (fun q => q c2)] at hx
          rw [c2] at hy
          subst hy
          refine zT.it (show (-1 : Int32) < 0 by decide) ?_
          refine zT.cnt 12 (fun k y => k ≤ a.2.1.1 ∧ y.1 = nI k ∧ zE pdo s y.2 ∧ MA y.2 a ∧ ∀ j, j < k → ((a.2.2.2.1.1 (a.2.2.2.1.2.2.2.1 r)).testBit j && hlp a (lef a r) (a.2.2.2.1.2.2.2.1 r) (60 + j)) = false) (by omega) ⟨Nat.zero_le _, rfl, hE2, hM2, fun j hj => absurd hj (Nat.not_lt_zero _)⟩ ?_
          rintro j k ⟨_, w⟩ hk ⟨hkn, rfl, hE3, hM3, hno⟩ hj
          dsimp only at *
          rw [hM3.2.1.1.1]
          refine zT.ite (fun c4 => ?_) (fun c4 => ?_)
          · rw [nI_leI (by omega) (by omega)] at c4
            have e3 : fo (fun b => (a.2.2.2.1.1 (a.2.2.2.1.2.2.2.1 r)).testBit b && hlp a (lef a r) (a.2.2.2.1.2.2.2.1 r) (60 + b)) = -1 := fo_no (fun b hb => by
              by_cases q : b < k
              · exact hno b q
              · rw [tb_big (hF.1 _ ht) (by omega)]; rfl)
            rw [if_neg (fun q => q e3)] at hx
            subst hx
            exact zT.ret ⟨rfl, hE3, hM3⟩
          · rw [nI_leI (by omega) (by omega)] at c4
            have hlt := okS_t hC.S ht
            refine zT.jnQ (fun y => zE pdo s y ∧ MA y a ∧ ((a.2.2.2.1.1 (a.2.2.2.1.2.2.2.1 r)).testBit k && hlp a (lef a r) (a.2.2.2.1.2.2.2.1 r) (60 + k)) = false) ?_ ?_
            · rintro y ⟨q1, q2, q3⟩
              refine zT.ltS ?_
              rw [nI_1]
              refine hj (by omega) _ ⟨by omega, rfl, q1, q2, fun i hi => ?_⟩
              by_cases e : i = k
              · rw [e]; exact q3
              · exact hno i (by omega)
            · intro j15 hj15
              rw [ai_n _ _ (by omega), show gi w 108 (a.2.2.2.1.2.2.2.1 r) = nI (a.2.2.2.1.1 (a.2.2.2.1.2.2.2.1 r)) from hM3.2.1.2.2.2.2.1 _ ht, has_n (by omega) (by omega)]
              refine zT.ite (fun c5 => ?_) (fun c5 => ?_)
              · rw [show (60 : Int32) = nI 60 from rfl, nI_add]
                refine zT.bnT (m_helps hn hM3.2.1 (k := 60 + k) (by omega) (by omega) hl ht) ?_
                rintro ⟨bb, w2⟩ ⟨hiff, hE4, hC4⟩
                dsimp only at *
                have hM4 := hM3.hl hE4 hC4
                have hlp1 := hlp_iff (a := a) (k := 60 + k) hnb hl ht (fun q => by omega)
                have hwy : awy a (60 + k) = 0 := by
                  unfold awy wy
                  rw [if_neg (by omega), if_pos (by omega), show (60 + k) % 20 = k by omega, tof_of hF.2 ht c5, if_pos ht]
                refine zT.ite (fun c6 => ?_) (fun c6 => ?_)
                · have hh := hlp1.mp (hiff.mp c6).2
                  have e3 : fo (fun b => (a.2.2.2.1.1 (a.2.2.2.1.2.2.2.1 r)).testBit b && hlp a (lef a r) (a.2.2.2.1.2.2.2.1 r) (60 + b)) = nI k := fo_at (by omega) (by rw [c5, hh]; rfl) hno
                  rw [if_pos (by rw [e3]; exact nI_not_m1 (by omega)), e3, nI_clamp (by omega)] at hx
                  subst hx
                  refine zT.bnT (m_make hn hM4 (k := 60 + k) (by omega) (by omega) hwy) ?_
                  rintro ⟨_, w3⟩ ⟨_, hE5, hM5⟩
                  refine zT.ret ⟨?_, (hE3.trans (phl_do hE4)).trans (hE5.mono (fun o j e => by simp [pdo, pmak] at *; omega)), hM5⟩
                  show nI (60 + k) = nI 60 + nI k
                  rw [nI_add]
                · refine hj15 _ ⟨hE3.trans (phl_do hE4), hM4, ?_⟩
                  cases q : hlp a (lef a r) (a.2.2.2.1.2.2.2.1 r) (60 + k)
                  · rw [Bool.and_false]
                  · exact absurd (hiff.mpr ⟨hwy, hlp1.mpr q⟩) c6
              · refine hj15 _ ⟨hE3, hM3, ?_⟩
                have c5 : (a.2.2.2.1.1 (a.2.2.2.1.2.2.2.1 r)).testBit k = false := by cases q : (a.2.2.2.1.1 (a.2.2.2.1.2.2.2.1 r)).testBit k <;> simp_all
                rw [c5]; rfl
        · rw [if_pos c2] at hx
          obtain ⟨b, hb, e, hp⟩ := fo_m1 (fun q => c2 (fo_lt.mp q))
          rw [Bool.and_eq_true] at hp
          have hpb := hp.1
          unfold posA at hpb
          rw [pos_bit ht (by omega), Bool.and_eq_true, decide_eq_true_eq, decide_eq_true_eq] at hpb
          refine zT.ie (by rw [hy, e]; exact nI_pos (by omega)) (mk b hb hpb.1 (by rw [hy, e]) hpb.2 ?_)
          rw [← hx, hy]
      · rw [if_pos c1] at hx hy
        obtain ⟨b, hb, e, hp⟩ := fo_m1 (fun q => c1 (fo_lt.mp q))
        rw [Nat.testBit_and, Bool.and_eq_true] at hp
        have hpb := hp.2
        unfold posA at hpb
        rw [pos_bit ht (by omega), Bool.and_eq_true, decide_eq_true_eq, decide_eq_true_eq] at hpb
        refine zT.ie (by rw [hy, e]; exact nI_pos (by omega)) (mk b hb hpb.1 (by rw [hy, e]) hpb.2 ?_)
        rw [← hx, hy]
    · intro j21 hj21
      have hEd : zE pdo s u := hE.mono (fun o j e => by simp [pdo, p116] at *; omega)
      by_cases c1 : fo (lef a r &&& posA a a.2.2.2.1.1 (a.2.2.2.1.2.2.2.1 r)).testBit = -1
      · rw [if_neg (fun q => q c1)] at hj21
        rw [c1] at hz
        have hnone : ∀ b, b < 12 → (lef a r &&& posA a a.2.2.2.1.1 (a.2.2.2.1.2.2.2.1 r)).testBit b = false := by
          rcases fo_cases (lef a r &&& posA a a.2.2.2.1.1 (a.2.2.2.1.2.2.2.1 r)).testBit with ⟨_, hn⟩ | ⟨b, hb, e, _⟩
          · exact hn
          · rw [e] at c1; exact absurd c1 (nI_not_m1 (by omega))
        refine zT.cnt 12 (fun k y => k ≤ a.2.1.1 ∧ y.2.1 = nI k ∧ zE pdo s y.2.2 ∧ MA y.2.2 a ∧ ((y.1 = -1 ∧ ∀ j, j < k → ((posA a a.2.2.2.1.1 (a.2.2.2.1.2.2.2.1 r)).testBit j && hlp a (lef a r) (a.2.2.2.1.2.2.2.1 r) (20 * a.2.2.2.1.2.2.2.1 r + j)) = false) ∨ (∃ b, b < k ∧ y.1 = nI b ∧ fo (fun b => (posA a a.2.2.2.1.1 (a.2.2.2.1.2.2.2.1 r)).testBit b && hlp a (lef a r) (a.2.2.2.1.2.2.2.1 r) (20 * a.2.2.2.1.2.2.2.1 r + b)) = nI b))) (by omega) ⟨Nat.zero_le _, rfl, hEd, hM, Or.inl ⟨hz, fun j hj => absurd hj (Nat.not_lt_zero _)⟩⟩ ?_
        rintro j k ⟨y, _, w⟩ hk ⟨hkn, rfl, hE3, hM3, hor⟩ hj
        dsimp only at *
        rw [hM3.2.1.1.1]
        refine zT.ite (fun c4 => ?_) (fun c4 => ?_)
        · rw [nI_leI (by omega) (by omega)] at c4
          refine hj21 _ ⟨hE3, hM3, ?_⟩
          rcases hor with ⟨rfl, hno⟩ | ⟨b, hb, rfl, e⟩
          · exact (fo_no (fun b hb => by
              by_cases q : b < k
              · exact hno b q
              · unfold posA
                rw [tb_big (pos_lt hF) (by omega)]; rfl)).symm
          · exact e.symm
        · rw [nI_leI (by omega) (by omega)] at c4
          rcases hor with ⟨rfl, hno⟩ | ⟨b, hb, rfl, e⟩
          · refine zT.ie (show ¬ 0 ≤ (-1 : Int32) by decide) ?_
            rw [show (20 : Int32) = nI 20 from rfl, nI_mulL, nI_add]
            refine zT.bnT (m_helps hn hM3.2.1 (k := 20 * a.2.2.2.1.2.2.2.1 r + k) (by omega) (by omega) hl ht) ?_
            rintro ⟨bb, w2⟩ ⟨hiff, hE4, hC4⟩
            dsimp only at *
            have hM4 := hM3.hl hE4 hC4
            have hpk : (posA a a.2.2.2.1.1 (a.2.2.2.1.2.2.2.1 r)).testBit k = decide (wy (aD a) a.2.1.2.2.2.2.2 a.2.2.2.1.1 (loA a) (20 * a.2.2.2.1.2.2.2.1 r + k) = 0) := by
              unfold posA
              rw [pos_bit ht (by omega), decide_eq_true (show k < a.2.1.1 by omega), Bool.true_and]
            refine zT.ln (fun x27 hx27 => zT.ltS ?_)
            rw [nI_1]
            refine hj (by omega) _ ⟨by omega, rfl, hE3.trans (phl_do hE4), hM4, ?_⟩
            have hlk : ∀ q : wy (aD a) a.2.1.2.2.2.2.2 a.2.2.2.1.1 (loA a) (20 * a.2.2.2.1.2.2.2.1 r + k) = 0, (lef a r).testBit k = false := fun q => by
              have := hnone k (by omega)
              rw [Nat.testBit_and, hpk, decide_eq_true q, Bool.and_true] at this
              exact this
            by_cases c6 : bb = true
            · rw [if_pos c6] at hx27
              have hh := hiff.mp c6
              have hlp1 := (hlp_iff (a := a) (k := 20 * a.2.2.2.1.2.2.2.1 r + k) hnb hl ht (fun _ => by rw [show (20 * a.2.2.2.1.2.2.2.1 r + k) % 20 = k by omega]; exact hlk hh.1)).mp hh.2
              refine Or.inr ⟨k, by omega, hx27, fo_at (by omega) ?_ hno⟩
              rw [hpk, hlp1, Bool.and_true]
              exact decide_eq_true hh.1
            · rw [if_neg c6] at hx27
              refine Or.inl ⟨hx27, fun i hi => ?_⟩
              by_cases e : i = k
              · rw [e, hpk]
                by_cases q : wy (aD a) a.2.1.2.2.2.2.2 a.2.2.2.1.1 (loA a) (20 * a.2.2.2.1.2.2.2.1 r + k) = 0
                · cases q2 : hlp a (lef a r) (a.2.2.2.1.2.2.2.1 r) (20 * a.2.2.2.1.2.2.2.1 r + k)
                  · rw [Bool.and_false]
                  · have hlp1 := (hlp_iff (a := a) (k := 20 * a.2.2.2.1.2.2.2.1 r + k) hnb hl ht (fun _ => by rw [show (20 * a.2.2.2.1.2.2.2.1 r + k) % 20 = k by omega]; exact hlk q)).mpr q2
                    exact absurd (hiff.mpr ⟨q, hlp1⟩) c6
                · rw [decide_eq_false q]; rfl
              · exact hno i (by omega)
          · refine zT.it (nI_pos' (by omega)) (hj21 _ ⟨hE3, hM3, e.symm⟩)
      · rw [if_pos c1] at hj21
        obtain ⟨b, hb, e, hp⟩ := fo_m1 (fun q => c1 (fo_lt.mp q))
        refine zT.loop (fun y => y = (z, (0 : Int32), u)) (fun _ => 0) ?_ n _ rfl (by omega)
        rintro j _ rfl _
        dsimp only
        rw [hM.2.1.1.1]
        refine zT.ite (fun c4 => hj21 _ ⟨hEd, hM, hz⟩) (fun c4 => ?_)
        exact zT.it (by rw [hz, e]; exact nI_pos' (by omega)) (hj21 _ ⟨hEd, hM, hz⟩)
  · have c0 : lef a r &&& a.2.2.2.1.1 (a.2.2.2.1.2.2.2.1 r) ≠ 0 := fun q => c (by rw [q]; rfl)
    rw [if_pos c0] at hx
    subst hx
    rw [ntz_n _ (by omega) c0]
    refine zT.ltS ?_
    have hlow : low (lef a r &&& a.2.2.2.1.1 (a.2.2.2.1.2.2.2.1 r)) < a.2.1.1 := by
      have e := low_fo _ (show lef a r &&& a.2.2.2.1.1 (a.2.2.2.1.2.2.2.1 r) < 4096 by omega) c0
      rcases fo_cases (lef a r &&& a.2.2.2.1.1 (a.2.2.2.1.2.2.2.1 r)).testBit with ⟨q, hno⟩ | ⟨b, hb, q, h1, _⟩
      · exfalso
        obtain ⟨i, hi⟩ := nz_bit c0
        have hi12 : i < 12 := by
          rcases Nat.lt_or_ge i 12 with w | w
          · exact w
          · rw [tb_big hand (by omega)] at hi; cases hi
        rw [hno i hi12] at hi; cases hi
      · have hlle : low (lef a r &&& a.2.2.2.1.1 (a.2.2.2.1.2.2.2.1 r)) ≤ 12 := by
          exact low_le _ (show lef a r &&& a.2.2.2.1.1 (a.2.2.2.1.2.2.2.1 r) < 4096 by omega)
        rw [q, nI_eq (by omega) (by omega)] at e
        rw [e]
        rcases Nat.lt_or_ge b a.2.1.1 with w | w
        · exact w
        · rw [tb_big hand w] at h1; cases h1
    refine zT.bnT (m_hasRead hn h hr hlow) ?_
    rintro ⟨_, v⟩ ⟨_, hE, hM⟩
    refine zT.ret ⟨?_, hE.mono (fun o j e => by simp [pdo, prd] at *; omega), hM⟩
    show (20 : Int32) + nI _ = nI _
    rw [show (20 : Int32) = nI 20 from rfl, nI_add]
end Z41
