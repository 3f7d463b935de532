-- the order of readers
section Z43
theorem pig : ∀ n k (g : Nat → Nat), k < n → ∃ r, r < n ∧ ∀ j, j < k → g j ≠ r
  | 0, _, _, h => absurd h (Nat.not_lt_zero _)
  | n + 1, k, g, h => by
    by_cases c : ∃ j0, j0 < k ∧ g j0 = n
    · obtain ⟨j0, h1, h2⟩ := c
      obtain ⟨r, hr, hg⟩ := pig n (k - 1) (fun j => if j = j0 then g (k - 1) else g j) (by omega)
      refine ⟨r, by omega, fun j hj e => ?_⟩
      by_cases e1 : j = j0
      · subst e1; omega
      · by_cases e2 : j = k - 1
        · have := hg j0 (by omega)
          rw [if_pos rfl, ← e2] at this
          exact this e
        · have := hg j (by omega)
          rw [if_neg e1] at this
          exact this e
    · refine ⟨n, by omega, fun j hj e => c ⟨j, hj, e⟩⟩
theorem inj_surj : ∀ n (g : Nat → Nat), (∀ j, j < n → g j < n) → (∀ i j, i < j → j < n → g i ≠ g j) → ∀ r, r < n → ∃ j, j < n ∧ g j = r
  | 0, _, _, _, r, h => absurd h (Nat.not_lt_zero _)
  | n + 1, g, hb, hi, r, hr => by
    by_cases e : g n = r
    · exact ⟨n, by omega, e⟩
    have ih := inj_surj n (fun j => if g j = n then g n else g j) (fun j hj => by
      have h1 := hb j (by omega)
      have h2 := hb n (by omega)
      have h3 := hi j n hj (by omega)
      try dsimp only
      split <;> omega) (fun i j hij hj => by
      have h1 := hi i j hij (by omega)
      have h2 := hi i n (by omega) (by omega)
      have h3 := hi j n (by omega) (by omega)
      try dsimp only
      split <;> split <;> omega)
    by_cases ern : r = n
    · have hgn := hb n (by omega)
      obtain ⟨j, hj, hjj⟩ := ih (g n) (by omega)
      refine ⟨j, by omega, ?_⟩
      have h3 := hi j n hj (by omega)
      try dsimp only at hjj
      split at hjj <;> omega
    · obtain ⟨j, hj, hjj⟩ := ih r (by omega)
      refine ⟨j, by omega, ?_⟩
      try dsimp only at hjj
      split at hjj <;> omega
def rate (a : ZA) (r : Nat) : Int32 := evl (lF a.1.2.1) a.1.2.1.length (nI (a.2.2.2.1.1 (a.2.2.2.1.2.2.2.1 r))) (nI (pcn (a.2.2.2.1.2.2.1 r))) (nI (a.2.2.2.1.2.2.2.1 r))
def bef (a : ZA) (x y : Nat) : Prop := rate a y < rate a x ∨ (rate a x = rate a y ∧ x < y)
def isOrd (a : ZA) (od : Nat → Nat) : Prop := (∀ k, k < a.2.2.1.1 → od k < a.2.2.1.1) ∧ (∀ i j, i < j → j < a.2.2.1.1 → bef a (od i) (od j)) ∧ (∀ r, r < a.2.2.1.1 → ∃ k, k < a.2.2.1.1 ∧ od k = r)
theorem bef_irr {a : ZA} {x : Nat} : ¬ bef a x x := fun h => by
  rcases h with h | h
  · exact Int32.lt_irrefl h
  · omega
theorem bef_asy {a : ZA} {x y : Nat} (h : bef a x y) : ¬ bef a y x := fun k => by
  rcases h with h | ⟨h, h'⟩
  · rcases k with k | ⟨k, _⟩
    · exact Int32.lt_asymm h k
    · rw [k] at h; exact Int32.lt_irrefl h
  · rcases k with k | ⟨_, k'⟩
    · rw [h] at k; exact Int32.lt_irrefl k
    · omega
theorem ord_uniq {a : ZA} {od od' : Nat → Nat} (h : isOrd a od) (h' : isOrd a od') : ∀ k, k < a.2.2.1.1 → od k = od' k := by
  intro k
  induction k using Nat.strongRecOn with
  | ind k ih =>
    intro hk
    obtain ⟨k1, hk1, e1⟩ := h'.2.2 (od k) (h.1 k hk)
    obtain ⟨k2, hk2, e2⟩ := h.2.2 (od' k) (h'.1 k hk)
    rcases Nat.lt_trichotomy k1 k with c | c | c
    · have := ih k1 c hk1
      have q := h.2.1 k1 k c hk
      rw [this, e1] at q
      exact absurd q bef_irr
    · rw [← c, e1]; rw [c]
    · rcases Nat.lt_trichotomy k2 k with d | d | d
      · have := ih k2 d hk2
        have q := h'.2.1 k2 k d hk
        rw [← this, e2] at q
        exact absurd q bef_irr
      · rw [← d, e2]; rw [d]
      · have q1 := h.2.1 k k2 d hk2
        have q2 := h'.2.1 k k1 c hk1
        rw [e2] at q1
        rw [e1] at q2
        exact absurd q2 (bef_asy q1)
noncomputable def odr (a : ZA) : Nat → Nat := Classical.epsilon (fun od => isOrd a od)
theorem odr_is {a : ZA} {od : Nat → Nat} (h : isOrd a od) : isOrd a (odr a) := Classical.epsilon_spec (p := fun od => isOrd a od) ⟨od, h⟩
theorem odr_eq {a : ZA} {od : Nat → Nat} (h : isOrd a od) {k : Nat} (hk : k < a.2.2.1.1) : od k = odr a k := ord_uniq h (odr_is h) k hk
theorem dn12 {a : ZA} (h : okA a) {r : Nat} (hr : r < a.2.2.1.1) : a.2.2.2.1.2.2.1 r < 4096 := by
  have hnb := h.2.2.2.1
  have h12 : 2 ^ a.2.1.1 ≤ 4096 := Nat.pow_le_pow_right (n := 2) (by decide) hnb
  have := (h.2.2.2.2.2.2.2.1.2.2.1 r hr).1
  omega
theorem m_ruleOf {n r : Nat} {s : ZSt} {a : ZA} (hn : 60 < n) (h : MA s a) (hr : r < a.2.2.1.1) : zT (f_M_ruleOf n (nI r) s) (fun q => q.1 = rate a r ∧ zE p116 s q.2) := by
  have hnr := h.1.2.2.2.2.2.1
  have ht := (h.1.2.2.2.2.2.2.2.1.2.2.1 r hr).2
  unfold f_M_ruleOf
  refine zT.gu (inb_n (by omega) (by decide)) ?_
  rw [ai_n _ _ (by omega), (h.2.2.2.2.2.1 r hr).1]
  refine zT.gu (inb_n ht (by decide)) ?_
  rw [ai_n _ _ (by omega), ai_n _ _ (by omega), show gi s 108 (a.2.2.2.1.2.2.2.1 r) = nI (a.2.2.2.1.1 (a.2.2.2.1.2.2.2.1 r)) from h.2.1.2.2.2.2.1 _ ht, show gi s 113 r = nI (a.2.2.2.1.2.2.1 r) from (h.2.1.1.2.2.2.2.1 r hr).1, bc_n _ (dn12 h.1 hr), show (24 : Int32) = nI 24 from rfl]
  refine zT.bnT (m_works (p := 24) (nI (a.2.2.2.1.1 (a.2.2.2.1.2.2.2.1 r))) (nI (pcn (a.2.2.2.1.2.2.1 r))) (nI (a.2.2.2.1.2.2.2.1 r)) hn (by decide) h.2.2.2.1.1 h.2.2.2.1.2 h.1.2.1) ?_
  rintro ⟨v, t⟩ ⟨hv, hE⟩
  exact zT.ret ⟨hv, hE⟩
def pra : Nat → Nat → Bool := fun o _ => o == 116 || o == 125 || o == 126
theorem pra_mo {s t : ZSt} (h : zE pra s t) : zE pMo s t := h.mono (fun o j e => by simp [pMo, pra] at *; omega)
set_option maxHeartbeats 1000000 in
theorem m_ranks {n : Nat} {s : ZSt} {a : ZA} (hn : 60 < n) (h : MA s a) : zT (f_M_ranks n s) (fun t => zE pra s t ∧ MA t a ∧ isOrd a (odr a) ∧ ∀ k, k < a.2.2.1.1 → gi t 125 k = nI (odr a k)) := by
  have hnr := h.1.2.2.2.2.2.1
  have frA : ∀ {t}, zE pra s t → MA t a := fun hE => h.fr hE (fun o j e => by simp [qM, pra] at *; omega)
  unfold f_M_ranks
  refine zT.cnt 6 (fun k x => k ≤ a.2.2.1.1 ∧ x.1 = nI k ∧ zE pra s x.2 ∧ ∀ r, r < k → gi x.2 126 r = rate a r) (by omega) ⟨Nat.zero_le _, rfl, zE.refl _ _, fun r hr => absurd hr (Nat.not_lt_zero _)⟩ ?_
  rintro j k ⟨_, u⟩ hk ⟨hkn, rfl, hE, hra⟩ hj
  dsimp only at *
  have hMu := frA hE
  rw [hMu.2.1.1.2.2.1]
  refine zT.ite (fun c => ?_) (fun c => ?_)
  · rw [nI_leI (by omega) (by omega)] at c
    have e : k = a.2.2.1.1 := by omega
    subst e
    clear hj
    refine zT.cnt 6 (fun k x => k ≤ a.2.2.1.1 ∧ x.2.1 = nI k ∧ zE (fun o _ => o == 125) u x.2.2 ∧ ∃ od : Nat → Nat, ∃ m, x.1 = nI m ∧ m < 4096 ∧ (∀ r, r < 6 → (m.testBit r = true ↔ ∃ j, j < k ∧ od j = r)) ∧ (∀ j, j < k → od j < a.2.2.1.1 ∧ gi x.2.2 125 j = nI (od j) ∧ (∀ i, i < j → od i ≠ od j) ∧ ∀ r, r < a.2.2.1.1 → (∀ i, i < j → od i ≠ r) → r ≠ od j → bef a (od j) r)) (by omega) ⟨Nat.zero_le _, rfl, zE.refl _ _, fun _ => 0, 0, rfl, by decide, fun r _ => by simp, fun j hj => absurd hj (Nat.not_lt_zero _)⟩ ?_
    rintro j k ⟨_, _, v⟩ hk ⟨hkn2, rfl, hE2, od, m, rfl, hm, hmb, hod⟩ hj
    dsimp only at *
    have h9 : gi v 0 9 = nI a.2.2.1.1 := (hE2.i rfl).trans hMu.2.1.1.2.2.1
    rw [h9]
    refine zT.ite (fun c => ?_) (fun c => ?_)
    · rw [nI_leI (by omega) (by omega)] at c
      have e : k = a.2.2.1.1 := by omega
      subst e
      have hEs : zE pra s v := hE.trans (hE2.mono (fun o j e => by simp [pra] at *; omega))
      have ho : isOrd a od := ⟨fun k hk => (hod k hk).1, fun i j hij hj => (hod i (by omega)).2.2.2 (od j) (hod j hj).1 (fun q hq => (hod j hj).2.2.1 q (by omega)) (fun e => (hod j hj).2.2.1 i hij e.symm), inj_surj _ od (fun k hk => (hod k hk).1) (fun i j hij hj => (hod j hj).2.2.1 i hij)⟩
      refine zT.ret ⟨hEs, frA hEs, odr_is ho, fun k hk => ?_⟩
      rw [(hod k hk).2.1, odr_eq ho hk]
    · rw [nI_leI (by omega) (by omega)] at c
      refine zT.cnt 6 (fun i x => i ≤ a.2.2.1.1 ∧ x.2 = nI i ∧ ((x.1 = -1 ∧ ∀ r, r < i → m.testBit r = true) ∨ ∃ b, b < i ∧ x.1 = nI b ∧ m.testBit b = false ∧ ∀ r, r < i → m.testBit r = false → r ≠ b → bef a b r)) (by omega) ⟨Nat.zero_le _, rfl, Or.inl ⟨rfl, fun r hr => absurd hr (Nat.not_lt_zero _)⟩⟩ ?_
      rintro j2 i ⟨z, _⟩ hi6 ⟨hin, rfl, hor⟩ hj2
      dsimp only at *
      refine zT.ite (fun c2 => ?_) (fun c2 => ?_)
      · rw [nI_leI (by omega) (by omega)] at c2
        have e : i = a.2.2.1.1 := by omega
        subst e
        clear hj2
        obtain ⟨b, hb, rfl, hbm, hbb⟩ : ∃ b, b < a.2.2.1.1 ∧ z = nI b ∧ m.testBit b = false ∧ ∀ r, r < a.2.2.1.1 → m.testBit r = false → r ≠ b → bef a b r := by
          rcases hor with ⟨_, hall⟩ | q
          · exfalso
            obtain ⟨r, hr, hno⟩ := pig a.2.2.1.1 k od (by omega)
            obtain ⟨q, hq, e⟩ := (hmb r (by omega)).mp (hall r hr)
            exact hno q hq e
          · exact q
        refine zT.gu (inb_n (by omega) (by decide)) ?_
        rw [sai_n _ _ _ (by omega), shI_n (by omega), nI_or]
        refine zT.ltS (zT.ltS (zT.ltS ?_))
        rw [nI_1]
        have h2b : 2 ^ b < 2 ^ 12 := Nat.pow_lt_pow_right (by decide) (by omega)
        refine hj (by omega) _ ⟨by omega, rfl, hE2.wi rfl, fun q => if q = k then b else od q, m ||| 2 ^ b, rfl, Nat.or_lt_two_pow (n := 12) hm h2b, fun r hr => ?_, fun q hq => ?_⟩
        · rw [Nat.testBit_or, tb2, Bool.or_eq_true, hmb r hr]
          constructor
          · rintro (⟨q, hq, e⟩ | w)
            · exact ⟨q, by omega, by dsimp only; rw [if_neg (by omega)]; exact e⟩
            · exact ⟨k, by omega, by dsimp only; rw [if_pos rfl]; exact of_decide_eq_true w⟩
          · rintro ⟨q, hq, e⟩
            dsimp only at e
            by_cases w : q = k
            · rw [if_pos w] at e; exact Or.inr (decide_eq_true e)
            · rw [if_neg w] at e; exact Or.inl ⟨q, by omega, e⟩
        · have hnot : ∀ r, r < 6 → m.testBit r = false → ∀ i, i < k → od i ≠ r := fun r hr hf i hi e => by
            rw [(hmb r hr).mpr ⟨i, hi, e⟩] at hf; cases hf
          have hyes : ∀ r, r < 6 → (∀ i, i < k → od i ≠ r) → m.testBit r = false := fun r hr hf => by
            cases w : m.testBit r
            · rfl
            · obtain ⟨i, hi, e⟩ := (hmb r hr).mp w
              exact absurd e (hf i hi)
          dsimp only
          by_cases w : q = k
          · subst w
            rw [if_pos rfl]
            refine ⟨hb, ?_, fun i hi => ?_, fun r hr hf hne => ?_⟩
            · rw [gi_i, if_pos ⟨rfl, rfl⟩]
            · rw [if_neg (by omega)]; exact hnot b (by omega) hbm i hi
            · refine hbb r hr (hyes r (by omega) (fun i hi => ?_)) hne
              have := hf i hi
              rwa [if_neg (by omega)] at this
          · obtain ⟨q1, q2, q3, q4⟩ := hod q (by omega)
            rw [if_neg w]
            refine ⟨q1, ?_, fun i hi => ?_, fun r hr hf hne => ?_⟩
            · rw [gi_i, if_neg (fun e => w e.2)]; exact q2
            · rw [if_neg (by omega)]; exact q3 i hi
            · refine q4 r hr (fun i hi => ?_) hne
              have := hf i hi
              rwa [if_neg (by omega)] at this
      · rw [nI_leI (by omega) (by omega)] at c2
        have hrv : ∀ r, r < a.2.2.1.1 → gi v 126 r = rate a r := fun r hr => (hE2.i rfl).trans (hra r hr)
        refine zT.jnQ (fun y => ((y = -1 ∧ ∀ r, r < i + 1 → m.testBit r = true) ∨ ∃ b, b < i + 1 ∧ y = nI b ∧ m.testBit b = false ∧ ∀ r, r < i + 1 → m.testBit r = false → r ≠ b → bef a b r)) ?_ ?_
        · intro y hy
          refine zT.ltS ?_
          rw [nI_1]
          exact hj2 (by omega) _ ⟨by omega, rfl, hy⟩
        · intro j16 hj16
          have take : m.testBit i = false → (∀ r, r < i → m.testBit r = false → bef a i r) → zT (j16 (nI i)) (fun t => zE pra s t ∧ MA t a ∧ isOrd a (odr a) ∧ ∀ k, k < a.2.2.1.1 → gi t 125 k = nI (odr a k)) := fun h1 h2 => hj16 _ (Or.inr ⟨i, by omega, rfl, h1, fun r hr hf hne => h2 r (by omega) hf⟩)
          refine zT.jnQ (fun _ => m.testBit i = true ∨ ∃ b, b < i ∧ z = nI b ∧ m.testBit b = false ∧ bef a b i ∧ ∀ r, r < i → m.testBit r = false → r ≠ b → bef a b r) ?_ ?_
          · rintro _ (hb | ⟨b, hb, rfl, q1, q2, q3⟩)
            · rcases hor with ⟨rfl, hall⟩ | ⟨b, hb', rfl, q1, q2⟩
              · exact hj16 _ (Or.inl ⟨rfl, fun r hr => by
                  by_cases e : r = i
                  · rw [e]; exact hb
                  · exact hall r (by omega)⟩)
              · exact hj16 _ (Or.inr ⟨b, by omega, rfl, q1, fun r hr hf hne => by
                  by_cases e : r = i
                  · rw [e, hb] at hf; cases hf
                  · exact q2 r (by omega) hf hne⟩)
            · exact hj16 _ (Or.inr ⟨b, by omega, rfl, q1, fun r hr hf hne => by
                by_cases e : r = i
                · rw [e]; exact q2
                · exact q3 r (by omega) hf hne⟩)
          · intro j18 hj18
            rw [has_n (by omega) (by omega)]
            refine zT.ite (fun c3 => hj18 () (Or.inl c3)) (fun c3 => ?_)
            have c3 : m.testBit i = false := by cases q : m.testBit i <;> simp_all
            refine zT.jo ?_
            rcases hor with ⟨rfl, hall⟩ | ⟨b, hb', rfl, q1, q2⟩
            · refine zT.it (show (-1 : Int32) < 0 by decide) (take c3 (fun r hr hf => ?_))
              rw [hall r hr] at hf; cases hf
            · refine zT.ie (nI_pos (by omega)) (zT.gu (inb_n (by omega) (by decide)) (zT.gu (inb_n (by omega) (by decide)) ?_))
              rw [ai_n _ _ (by omega), ai_n _ _ (by omega), hrv i (by omega), hrv b (by omega)]
              refine zT.ite (fun c4 => ?_) (fun c4 => ?_)
              · refine hj18 () (Or.inr ⟨b, hb', rfl, q1, ?_, q2⟩)
                rcases Int32.le_iff_lt_or_eq.mp c4 with w | w
                · exact Or.inl w
                · exact Or.inr ⟨w.symm, hb'⟩
              · have c4 := Int32.not_le.mp c4
                refine take c3 (fun r hr hf => ?_)
                by_cases e : r = b
                · rw [e]; exact Or.inl c4
                · rcases q2 r hr hf e with w | w
                  · exact Or.inl (Int32.lt_trans w c4)
                  · exact Or.inl (by rw [← w.1]; exact c4)
  · rw [nI_leI (by omega) (by omega)] at c
    refine zT.bnT (m_ruleOf hn hMu (r := k) (by omega)) ?_
    rintro ⟨_, w⟩ ⟨rfl, hE2⟩
    refine zT.gu (inb_n (by omega) (by decide)) ?_
    rw [sai_n _ _ _ (by omega)]
    refine zT.ltS (zT.ltS ?_)
    rw [nI_1]
    refine hj (by omega) _ ⟨by omega, rfl, (hE.trans (hE2.mono (fun o j e => by simp [pra, p116] at *; omega))).wi rfl, fun r hr => ?_⟩
    dsimp only
    rw [gi_i]
    by_cases e : r = k
    · rw [if_pos ⟨rfl, e⟩, e]
    · rw [if_neg (fun q => e q.2), hE2.i rfl]; exact hra r (by omega)
end Z43
