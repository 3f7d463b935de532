-- the first book for which; what helps
section Z40
def ff (p : Nat → Bool) : Nat → Nat
  | 0 => 0
  | k + 1 => if ff p k < k then ff p k else if p k = true then k else k + 1
def fo (p : Nat → Bool) : Int32 := if ff p 12 < 12 then nI (ff p 12) else -1
theorem ff_s (p : Nat → Bool) (k : Nat) : ff p (k + 1) = if ff p k < k then ff p k else if p k = true then k else k + 1 := rfl
theorem ff_no {p : Nat → Bool} {n : Nat} (h : ∀ b, b < n → p b = false) : ff p n = n := by
  induction n with
  | zero => rfl
  | succ k ih =>
    rw [ff_s, ih (fun b hb => h b (by omega)), if_neg (by omega), if_neg (by rw [h k (by omega)]; decide)]
theorem ff_at {p : Nat → Bool} {n b : Nat} (hb : b < n) (hp : p b = true) (hl : ∀ j, j < b → p j = false) : ff p n = b := by
  induction n with
  | zero => omega
  | succ k ih =>
    rw [ff_s]
    by_cases e : b = k
    · subst e
      rw [ff_no hl, if_neg (by omega), if_pos hp]
    · rw [ih (by omega), if_pos (by omega)]
theorem fo_at {p : Nat → Bool} {b : Nat} (hb : b < 12) (hp : p b = true) (hl : ∀ j, j < b → p j = false) : fo p = nI b := by
  unfold fo
  rw [ff_at hb hp hl, if_pos hb]
theorem fo_no {p : Nat → Bool} (h : ∀ b, b < 12 → p b = false) : fo p = -1 := by
  unfold fo
  rw [ff_no h, if_neg (by omega)]
theorem fo_cases (p : Nat → Bool) : (fo p = -1 ∧ ∀ b, b < 12 → p b = false) ∨ ∃ b, b < 12 ∧ fo p = nI b ∧ p b = true ∧ ∀ j, j < b → p j = false := by
  have key : ∀ n, (∀ b, b < n → p b = false) ∨ ∃ b, b < n ∧ p b = true ∧ ∀ j, j < b → p j = false := by
    intro n
    induction n with
    | zero => exact Or.inl (fun b hb => absurd hb (Nat.not_lt_zero _))
    | succ k ih =>
      rcases ih with h | ⟨b, hb, h1, h2⟩
      · cases q : p k
        · refine Or.inl (fun b hb => ?_)
          by_cases e : b = k
          · rw [e, q]
          · exact h b (by omega)
        · exact Or.inr ⟨k, by omega, q, h⟩
      · exact Or.inr ⟨b, by omega, h1, h2⟩
  rcases key 12 with h | ⟨b, hb, h1, h2⟩
  · exact Or.inl ⟨fo_no h, h⟩
  · exact Or.inr ⟨b, hb, fo_at hb h1 h2, h1, h2⟩
theorem fo_congr {p q : Nat → Bool} (h : ∀ b, b < 12 → p b = q b) : fo p = fo q := by
  rcases fo_cases p with ⟨e, n⟩ | ⟨b, hb, e, h1, h2⟩
  · rw [e, fo_no (fun b hb => by rw [← h b hb]; exact n b hb)]
  · rw [e, fo_at hb (by rw [← h b hb]; exact h1) (fun j hj => by rw [← h j (by omega)]; exact h2 j hj)]
set_option maxRecDepth 100000 in
theorem low_fo : ∀ x, x < 4096 → x ≠ 0 → nI (low x) = fo x.testBit := by64 (by decide +kernel)
theorem x_lowest {n x : Nat} (hn : 12 < n) (hx : x < 2 ^ 31) : f_X_lowest n (nI x) = some (fo x.testBit) := by
  apply zT.eq
  unfold f_X_lowest
  refine zT.cnt 12 (fun k y => y = nI k ∧ ∀ j, j < k → x.testBit j = false) hn ⟨rfl, fun j h => absurd h (Nat.not_lt_zero _)⟩ ?_
  rintro j k _ hk ⟨rfl, hl⟩ hj
  refine zT.ite (fun c => ?_) (fun c => ?_)
  · rw [show (12 : Int32) = nI 12 from rfl, nI_leI (by omega) (by omega)] at c
    have e : k = 12 := by omega
    subst e
    exact zT.ret (fo_no hl).symm
  · rw [show (12 : Int32) = nI 12 from rfl, nI_leI (by omega) (by omega)] at c
    refine zT.ite (fun c2 => ?_) (fun c2 => ?_)
    · rw [bit0 hx (by omega)] at c2
      refine zT.ltS ?_
      rw [nI_1]
      refine hj (by omega) _ ⟨rfl, fun j hj => ?_⟩
      by_cases e : j = k
      · rw [e]; exact c2
      · exact hl j (by omega)
    · rw [bit0 hx (by omega)] at c2
      refine zT.ret (fo_at (by omega) (by simpa using c2) hl).symm
theorem any_bit {f : Nat → Nat} {b : Nat} : (anyw f).testBit b = true ↔ tof f b < 3 := by
  unfold anyw tof
  rw [Nat.testBit_or, Nat.testBit_or]
  cases (f 0).testBit b <;> cases (f 1).testBit b <;> cases (f 2).testBit b <;> decide
theorem npl_0 {D : ZD} {rm f : Nat → Nat} {b t : Nat} : npl D rm f b t = 0 ↔ pcn (f t) < rm t ∧ vmy D b t (f t) = true := by
  unfold npl
  by_cases c : pcn (f t) < rm t
  · rw [if_pos c]
    by_cases v : vmy D b t (f t) = true
    · rw [if_pos v]; exact ⟨fun _ => ⟨c, v⟩, fun _ => rfl⟩
    · rw [if_neg v]; exact ⟨fun h => absurd h (by decide), fun h => absurd h.2 v⟩
  · rw [if_neg c]; exact ⟨fun h => absurd h (by decide), fun h => absurd h.1 c⟩
theorem pos_bit {D : ZD} {nb : Nat} {rm f : Nat → Nat} {lo : Nat → Bool} {t b : Nat} (ht : t < 3) (hb : b < 20) : (pos D nb rm f (spk lo nb) t).testBit b = (decide (b < nb) && decide (wy D rm f lo (20 * t + b) = 0)) := by
  have e1 : (20 * t + b) % 20 = b := by omega
  have e2 : (20 * t + b) / 20 = t := by omega
  have ek : ktb t = t := by unfold ktb; rw [if_pos ht]
  rw [Bool.eq_iff_iff, Bool.and_eq_true, decide_eq_true_eq, decide_eq_true_eq]
  unfold pos wy
  rw [if_neg (by omega), if_pos (show 20 * t + b < 60 by omega), e1, e2, ek]
  have ha := @any_bit f b
  by_cases c : pcn (f t) < rm t
  · rw [if_pos c, if_pos ht, ndf_t, ndf_t, mmk_t, spk_t]
    by_cases h1 : tof f b < 3
    · rw [if_pos h1, ha.mpr h1]
      simp
    · have h1' : (anyw f).testBit b = false := by
        cases q : (anyw f).testBit b
        · rfl
        · exact absurd (ha.mp q) h1
      rw [if_neg h1, h1']
      by_cases h2 : b < nb
      · by_cases h3 : lo b = true
        · rw [if_pos h3, npl_0]; simp [h2, h3, c]
        · rw [if_neg h3]
          have h3' : lo b = false := by cases q : lo b <;> simp_all
          simp [h2, h3']
      · simp [h2]
  · rw [if_neg c, Nat.zero_testBit]
    constructor
    · intro h; cases h
    · rintro ⟨_, h⟩
      split at h
      · exact absurd h (by decide)
      · split at h
        · exact absurd (npl_0.mp h).1 c
        · exact absurd h (by decide)
theorem pos_lt {D : ZD} {nb : Nat} {rm f : Nat → Nat} {sp kind : Nat} (hF : okF nb f) : pos D nb rm f sp kind < 2 ^ nb := by
  unfold pos
  split
  · exact any_n hF
  · split
    · split
      · exact Nat.lt_of_le_of_lt (ndf_le _ _) (Nat.lt_of_le_of_lt (ndf_le _ _) (mmk_lt _ _ _ _))
      · exact Nat.lt_of_le_of_lt Nat.and_le_right (mmk_lt _ _ _ _)
    · exact Nat.pos_of_ne_zero (by simp)
theorem wy_lo {D : ZD} {rm f : Nat → Nat} {lo lo' : Nat → Bool} {a : Nat} (h : lo' (a % 20) = lo (a % 20)) : wy D rm f lo' a = wy D rm f lo a := by
  unfold wy
  rw [h]
-- put by, put back
def p123 : Nat → Nat → Bool := fun o _ => o == 123 || o == 124
def p185 : Nat → Nat → Bool := fun o _ => o == 108 || o == 105
theorem m_cpy {n N o o' : Nat} {P : ZSt → Prop} (hn : N < n) (hN : N < 1000) (hne : o ≠ o') (k0 : ZSt → Option ZSt) (s : ZSt)
    (h : ∀ t, zE (fun q _ => q == o') s t → (∀ j, j < N → gi t o' j = gi s o j) → zT (k0 t) P) :
    zT (lpN (fun j5 (x4 : Int32 × ZSt) => (if nI N ≤ x4.1 then k0 x4.2 else gd (inb x4.1 N) (lt (sai x4.2 o' x4.1 (ai x4.2 o x4.1)) (fun s8 => lt (x4.1 + (1 : Int32)) (fun v9 => j5 (v9, s8)))))) n ((0 : Int32), s)) P := by
  refine zT.cnt N (fun k x => x.1 = nI k ∧ zE (fun q _ => q == o') s x.2 ∧ ∀ j, j < k → gi x.2 o' j = gi s o j) hn ⟨rfl, zE.refl _ _, fun j hj => absurd hj (Nat.not_lt_zero _)⟩ ?_
  rintro j k ⟨_, u⟩ hk ⟨rfl, hE, hl⟩ hj
  dsimp only at *
  refine zT.ite (fun c => ?_) (fun c => ?_)
  · rw [nI_leI (by omega) (by omega)] at c
    have e : k = N := by omega
    subst e
    exact h u hE hl
  · rw [nI_leI (by omega) (by omega)] at c
    refine zT.gu (inb_n (by omega) (by omega)) ?_
    rw [ai_n _ _ (by omega), sai_n _ _ _ (by omega)]
    refine zT.ltS (zT.ltS ?_)
    rw [nI_1]
    refine hj (by omega) _ ⟨rfl, hE.wi (by simp), fun i hi => ?_⟩
    dsimp only
    rw [gi_i]
    by_cases e : i = k
    · rw [if_pos ⟨rfl, e⟩, hE.i (by simp; omega), e]
    · rw [if_neg (fun q => e q.2)]; exact hl i (by omega)
theorem m_putsBy {n : Nat} (s : ZSt) (hn : 12 < n) : zT (f_M_putsBy n s) (fun t => zE p123 s t ∧ (∀ k, k < 3 → gi t 123 k = gi s 108 k) ∧ ∀ k, k < 12 → gi t 124 k = gi s 105 k) := by
  unfold f_M_putsBy
  refine m_cpy (n := n) (N := 3) (o := 108) (o' := 123) (show 3 < n by omega) (by decide) (by decide) (fun u => lpN (fun j5 (x4 : Int32 × ZSt) => (if (12 : Int32) ≤ x4.1 then some x4.2 else gd (inb x4.1 12) (lt (sai x4.2 124 x4.1 (ai x4.2 105 x4.1)) (fun s8 => lt (x4.1 + (1 : Int32)) (fun v9 => j5 (v9, s8)))))) n ((0 : Int32), u)) s ?_
  intro t hE h1
  refine m_cpy (N := 12) (o := 105) (o' := 124) (by omega) (by omega) (by omega) (fun t => some t) t ?_
  intro u hE2 h2
  refine zT.ret ⟨(hE.mono (fun o j e => by simp [p123] at *; omega)).trans (hE2.mono (fun o j e => by simp [p123] at *; omega)), fun k hk => ?_, fun k hk => ?_⟩
  · rw [hE2.i (by simp)]; exact h1 k hk
  · rw [h2 k hk, hE.i (by simp)]
theorem m_putsBack {n : Nat} (s : ZSt) (hn : 12 < n) : zT (f_M_putsBack n s) (fun t => zE p185 s t ∧ (∀ k, k < 3 → gi t 108 k = gi s 123 k) ∧ ∀ k, k < 12 → gi t 105 k = gi s 124 k) := by
  unfold f_M_putsBack
  refine m_cpy (n := n) (N := 3) (o := 123) (o' := 108) (show 3 < n by omega) (by decide) (by decide) (fun u => lpN (fun j5 (x4 : Int32 × ZSt) => (if (12 : Int32) ≤ x4.1 then some x4.2 else gd (inb x4.1 12) (lt (sai x4.2 105 x4.1 (ai x4.2 124 x4.1)) (fun s8 => lt (x4.1 + (1 : Int32)) (fun v9 => j5 (v9, s8)))))) n ((0 : Int32), u)) s ?_
  intro t hE h1
  refine m_cpy (N := 12) (o := 124) (o' := 105) (by omega) (by omega) (by omega) (fun t => some t) t ?_
  intro u hE2 h2
  refine zT.ret ⟨(hE.mono (fun o j e => by simp [p185] at *; omega)).trans (hE2.mono (fun o j e => by simp [p185] at *; omega)), fun k hk => ?_, fun k hk => ?_⟩
  · rw [hE2.i (by simp)]; exact h1 k hk
  · rw [h2 k hk, hE.i (by simp)]
section
variable {n nb nr : Nat} {dn : Nat → Nat} {D : ZD} {lim opn : Nat → Int32} {rm f : Nat → Nat} {s : ZSt}
theorem m_firstOpen {left t : Nat} (hn : 60 < n) (h : MK s nb nr dn D lim opn rm f) (hl : left < 2 ^ nb) (ht : t < 3) : zT (f_M_firstOpen n (nI left) (nI t) s) (fun q => q.1 = fo (fun b => left.testBit b && decide (wy D rm f (loo lim opn) (20 * t + b) = 0)) ∧ zE p116 s q.2) := by
  have hnb := h.1.2.1
  have h12 : 2 ^ nb ≤ 4096 := Nat.pow_le_pow_right (n := 2) (by decide) hnb
  unfold f_M_firstOpen
  refine zT.cnt 12 (fun k x => k ≤ nb ∧ x.1 = nI k ∧ zE p116 s x.2 ∧ ∀ j, j < k → (left.testBit j && decide (wy D rm f (loo lim opn) (20 * t + j) = 0)) = false) (by omega) ⟨Nat.zero_le _, rfl, zE.refl _ _, fun j hj => absurd hj (Nat.not_lt_zero _)⟩ ?_
  rintro j k ⟨_, u⟩ hk ⟨hkn, rfl, hE, hp⟩ hj
  dsimp only at *
  have hK := h.fr hE noM116
  rw [hK.1.1]
  refine zT.ite (fun c => ?_) (fun c => ?_)
  · rw [nI_leI (by omega) (by omega)] at c
    refine zT.ret ⟨(fo_no (fun b hb => ?_)).symm, hE⟩
    by_cases q : b < k
    · exact hp b q
    · rw [tb_big hl (by omega)]; rfl
  · rw [nI_leI (by omega) (by omega)] at c
    refine zT.jnQ (fun x4 => zE p116 s x4 ∧ (left.testBit k && decide (wy D rm f (loo lim opn) (20 * t + k) = 0)) = false) ?_ ?_
    · rintro x4 ⟨q1, q2⟩
      refine zT.ltS ?_
      rw [nI_1]
      refine hj (by omega) _ ⟨by omega, rfl, q1, fun i hi => ?_⟩
      by_cases e : i = k
      · rw [e]; exact q2
      · exact hp i (by omega)
    · intro j6 hj6
      rw [has_n (by omega) (by omega)]
      refine zT.ite (fun c2 => ?_) (fun c2 => ?_)
      · rw [show (20 : Int32) = nI 20 from rfl, nI_mulL, nI_add]
        refine zT.bnT (m_whyNot hn hK (a := 20 * t + k) (by omega) (by omega)) ?_
        rintro ⟨w, v⟩ ⟨hw, hE2⟩
        dsimp only at *
        have hw : w = wy D rm f (loo lim opn) (20 * t + k) := hw
        refine zT.ite (fun c3 => ?_) (fun c3 => ?_)
        · refine zT.ret ⟨(fo_at (by omega) ?_ hp).symm, hE.trans hE2⟩
          rw [c2, ← hw, c3]; rfl
        · refine hj6 _ ⟨hE.trans hE2, ?_⟩
          rw [← hw, c2, decide_eq_false c3]; rfl
      · refine hj6 _ ⟨hE, ?_⟩
        have c2 : left.testBit k = false := by cases q : left.testBit k <;> simp_all
        rw [c2]; rfl
def phl : Nat → Nat → Bool := fun o _ => o == 116 || o == 108 || o == 105 || o == 123 || o == 124
theorem m_helps {k left t : Nat} (hn : 60 < n) (h : MK s nb nr dn D lim opn rm f) (hk : k < 140) (hb : k % 20 < nb) (hl : left < 2 ^ nb) (ht : t < 3) :
    zT (f_M_helps n (nI k) (nI left) (nI t) s) (fun q => (q.1 = true ↔ (wy D rm f (loo lim opn) k = 0 ∧ ¬ fo (fun b => left.testBit b && decide (wy D rm (aft D nb f k) (loo lim (opa opn k)) (20 * t + b) = 0)) < 0)) ∧ zE phl s q.2 ∧ MK q.2 nb nr dn D lim opn rm f) := by
  have hnb := h.1.2.1
  unfold f_M_helps
  refine zT.bnT (m_whyNot hn h hk hb) ?_
  rintro ⟨w, u⟩ ⟨hw, hE⟩
  dsimp only at *
  have hw : w = wy D rm f (loo lim opn) k := hw
  have hK := h.fr hE noM116
  refine zT.ite (fun c => ?_) (fun c => ?_)
  · have h0 : wy D rm f (loo lim opn) k = 0 := wy_neg (by rw [hw] at c; exact c)
    refine zT.bnT (m_putsBy u (by omega)) ?_
    rintro u2 ⟨hE2, s1, s2⟩
    have hK2 := hK.fr hE2 ⟨⟨rfl, rfl, fun _ => rfl, fun _ => rfl, fun _ => rfl, fun _ => rfl⟩, fun _ => rfl, fun _ => rfl, fun _ => rfl, fun _ => rfl⟩
    refine zT.bnT (m_makes hn hK2 hk hb h0) ?_
    rintro ⟨v, u3⟩ ⟨_, hE3, hK3⟩
    refine zT.bnT (m_firstOpen hn hK3 hl ht) ?_
    rintro ⟨z, u4⟩ ⟨hz, hE4⟩
    dsimp only at *
    refine zT.ln (fun x6 hx6 => ?_)
    refine zT.bnT (m_putsBack u4 (by omega)) ?_
    rintro u5 ⟨hE5, s3, s4⟩
    have e34 : zE (fun o _ => o == 116 || o == 108 || o == 105) u2 u4 := (hE3.mono (fun o j e => by simp [pmak] at *; omega)).trans (hE4.mono (fun o j e => by simp [p116] at *; omega))
    have hEall : zE phl s u5 := (hE.mono (fun o j e => by simp [phl, p116] at *; omega)).trans ((hE2.mono (fun o j e => by simp [phl, p123] at *; omega)).trans ((e34.mono (fun o j e => by simp [phl] at *; omega)).trans (hE5.mono (fun o j e => by simp [phl, p185] at *; omega))))
    refine zT.ret ⟨?_, hEall, ?_⟩
    · rw [hx6, hz]
      by_cases q : fo (fun b => left.testBit b && decide (wy D rm (aft D nb f k) (loo lim (opa opn k)) (20 * t + b) = 0)) < 0
      · rw [if_pos q]; exact ⟨fun e => (by cases e), fun e => absurd q e.2⟩
      · rw [if_neg q]; exact ⟨fun _ => ⟨h0, q⟩, fun _ => rfl⟩
    · obtain ⟨a1, a2, a3, a4, a5, a6⟩ := h
      refine ⟨a1.fr hEall ⟨rfl, rfl, fun _ => rfl, fun _ => rfl, fun _ => rfl, fun _ => rfl⟩, fun b hb => (hEall.i rfl).trans (a2 b hb), fun b hb => ?_, fun b hb => ⟨(hEall.i rfl).trans (a4 b hb).1, (a4 b hb).2⟩, fun b hb => ?_, a6⟩
      · rw [s4 b hb, e34.i rfl, s2 b hb]; exact hK.2.2.1 b hb
      · rw [s3 b hb, e34.i rfl, s1 b hb]; exact hK.2.2.2.2.1 b hb
  · refine zT.ret ⟨⟨fun e => (by cases e), fun e => ?_⟩, hE.mono (fun o j e => by simp [phl, p116] at *; omega), hK⟩
    exact absurd (show 0 ≤ w by rw [hw, e.1]; decide) c
end
end Z40
