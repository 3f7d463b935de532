-- BOOKS: what may be where; what settles
section Z24
/-- conditions: first, second, how many have to have read, how many have -/
abbrev ZD : Type := (Nat → List Int32) × (Nat → List Int32) × (Nat → Nat) × (Nat → Nat)
def lF (l : List Int32) : Nat → Int32 := fun k => l.getD k 0
def lat (D : ZD) (b : Nat) : Bool := decide (0 < D.2.2.1 b ∧ D.2.2.1 b ≤ D.2.2.2 b)
def cnd (D : ZD) (b : Nat) : List Int32 := if lat D b = true then D.2.1 b else D.1 b
def val (D : ZD) (b t set : Nat) : Int32 := evl (lF (cnd D b)) (cnd D b).length (nI set) (nI (D.2.2.2 b)) (nI t)
def vmy (D : ZD) (b t set : Nat) : Bool := decide (val D b t set ≠ 0)
def mmk (D : ZD) (t set : Nat) : Nat → Nat
  | 0 => 0
  | k + 1 => if vmy D k t set = true then mmk D t set k ||| 2 ^ k else mmk D t set k
theorem mmk_s (D : ZD) (t set k : Nat) : mmk D t set (k + 1) = if vmy D k t set = true then mmk D t set k ||| 2 ^ k else mmk D t set k := rfl
theorem tb2 (k i : Nat) : (2 ^ k).testBit i = decide (k = i) := Nat.testBit_two_pow
theorem mmk_t (D : ZD) (t set k i : Nat) : (mmk D t set k).testBit i = (decide (i < k) && vmy D i t set) := by
  induction k with
  | zero => simp [mmk]
  | succ k ih =>
    unfold mmk
    by_cases h : vmy D k t set = true
    · rw [if_pos h, Nat.testBit_or, ih, tb2]
      by_cases e : k = i
      · subst e; simp [h]
      · have : (i < k + 1) ↔ (i < k) := by omega
        simp [e, this]
    · rw [if_neg h, ih]
      by_cases e : k = i
      · subst e; simp at h; simp [h]
      · have : (i < k + 1) ↔ (i < k) := by omega
        simp [this]
theorem lt_two_pow_of {x n : Nat} (h : ∀ i, n ≤ i → x.testBit i = false) : x < 2 ^ n := Nat.lt_pow_two_of_testBit x h
theorem mmk_lt (D : ZD) (t set k : Nat) : mmk D t set k < 2 ^ k := lt_two_pow_of (fun i hi => by rw [mmk_t]; simp; intro h; omega)
/-- settling: again and again -/
def stl (m : Nat → Nat) (x : Nat) : Nat → Nat
  | 0 => x
  | k + 1 => stl m x k &&& m (stl m x k)
theorem stl_le (m : Nat → Nat) (x k : Nat) : stl m x k ≤ x := by
  induction k with
  | zero => exact Nat.le_refl _
  | succ k ih => exact Nat.le_trans Nat.and_le_left ih
theorem pcn_lt {x y : Nat} (hx : x < 4096) (hs : ∀ i, y.testBit i = true → x.testBit i = true) (hne : y ≠ x) : pcn y < pcn x := by
  have hb : ∀ i, (y.testBit i).toNat ≤ (x.testBit i).toNat := fun i => by
    cases hy : y.testBit i
    · exact Nat.zero_le _
    · rw [hs i hy]; exact Nat.le_refl _
  apply Nat.lt_of_not_le
  intro hle
  apply hne
  have h0 := hb 0; have h1 := hb 1; have h2 := hb 2; have h3 := hb 3; have h4 := hb 4; have h5 := hb 5
  have h6 := hb 6; have h7 := hb 7; have h8 := hb 8; have h9 := hb 9; have h10 := hb 10; have h11 := hb 11
  unfold pcn at hle
  have hi : ∀ a b : Bool, a.toNat = b.toNat → a = b := by decide
  apply Nat.eq_of_testBit_eq
  intro i
  by_cases hi12 : i < 12
  · rcases (show i = 0 ∨ i = 1 ∨ i = 2 ∨ i = 3 ∨ i = 4 ∨ i = 5 ∨ i = 6 ∨ i = 7 ∨ i = 8 ∨ i = 9 ∨ i = 10 ∨ i = 11 by omega) with rfl | rfl | rfl | rfl | rfl | rfl | rfl | rfl | rfl | rfl | rfl | rfl <;> (apply hi; omega)
  · have e := tb_big (n := 12) hx (show 12 ≤ i by omega)
    rw [e]
    cases hy : y.testBit i
    · rfl
    · have := hs i hy; rw [e] at this; cases this
theorem stl_stay {m : Nat → Nat} {x k : Nat} (h : stl m x (k + 1) = stl m x k) : ∀ j, stl m x (k + j) = stl m x k := by
  intro j
  induction j with
  | zero => rfl
  | succ j ih =>
    show stl m x (k + j) &&& m (stl m x (k + j)) = _
    rw [ih]
    exact h
theorem stl_pc {m : Nat → Nat} {x : Nat} (hx : x < 4096) : ∀ k, stl m x (k + 1) ≠ stl m x k → pcn (stl m x (k + 1)) + (k + 1) ≤ pcn x := by
  intro k
  have step : ∀ k, stl m x (k + 1) ≠ stl m x k → pcn (stl m x (k + 1)) < pcn (stl m x k) := fun k h => pcn_lt (Nat.lt_of_le_of_lt (stl_le m x k) hx) (fun i hi => by
    have : stl m x (k + 1) = stl m x k &&& m (stl m x k) := rfl
    rw [this, Nat.testBit_and] at hi
    exact (Bool.and_eq_true_iff.mp hi).1) h
  induction k with
  | zero => intro h; have := step 0 h; exact this
  | succ k ih =>
    intro h
    have h1 := step (k + 1) h
    have h2 : stl m x (k + 1) ≠ stl m x k := fun e => h (by
      have := stl_stay e 2
      have q := stl_stay e 1
      rw [show k + 1 + 1 = k + 2 from rfl, this, q])
    have := ih h2
    omega
theorem stl_fix {m : Nat → Nat} {x : Nat} (hx : x < 4096) : stl m x 13 = stl m x 12 := by
  apply Classical.byContradiction
  intro h
  have := stl_pc (m := m) hx 12 h
  have := pcn_le x
  omega
/-- the end of settling -/
def sto (m : Nat → Nat) (x : Nat) : Nat := stl m x 12
theorem sto_at {m : Nat → Nat} {x k : Nat} (hx : x < 4096) (hk : k ≤ 12) (h : stl m x (k + 1) = stl m x k) : stl m x k = sto m x := by
  have := stl_stay h (12 - k)
  rw [show k + (12 - k) = 12 by omega] at this
  exact this.symm
theorem sto_lt {m : Nat → Nat} {x n : Nat} (hx : x < n) : sto m x < n := Nat.lt_of_le_of_lt (stl_le m x 12) hx
theorem sto_fix {m : Nat → Nat} {x : Nat} (hx : x < 4096) : sto m x &&& m (sto m x) = sto m x := stl_fix hx
theorem stl_sub {m : Nat → Nat} {x : Nat} (k i : Nat) (h : (stl m x k).testBit i = true) : x.testBit i = true := by
  induction k with
  | zero => exact h
  | succ k ih =>
    have : stl m x (k + 1) = stl m x k &&& m (stl m x k) := rfl
    rw [this, Nat.testBit_and] at h
    exact ih (Bool.and_eq_true_iff.mp h).1
theorem sto_sub {m : Nat → Nat} {x i : Nat} (h : (sto m x).testBit i = true) : x.testBit i = true := stl_sub 12 i h
-- how many have read
def cntr (dn : Nat → Nat) (b : Nat) : Nat → Nat
  | 0 => 0
  | r + 1 => cntr dn b r + ((dn r).testBit b).toNat
theorem cntr_le (dn : Nat → Nat) (b r : Nat) : cntr dn b r ≤ r := by
  induction r with
  | zero => exact Nat.le_refl _
  | succ r ih =>
    have h : ∀ q : Bool, q.toNat ≤ 1 := by decide
    have := h ((dn r).testBit b)
    show cntr dn b r + _ ≤ _
    omega
theorem zT.eq {α : Type} {t : Option α} {v : α} (h : zT t (fun a => a = v)) : t = some v := by
  obtain ⟨a, e, q⟩ := h
  rw [e, q]
theorem m_readBy {n nr b : Nat} {dn : Nat → Nat} {s : ZSt} (hn : 6 < n) (h9 : gi s 0 9 = nI nr) (hnr : nr ≤ 6) (hd : ∀ r, r < nr → gi s 113 r = nI (dn r) ∧ dn r < 4096) (hb : b < 12) : f_M_readBy n (nI b) s = some (nI (cntr dn b nr)) := by
  apply zT.eq
  unfold f_M_readBy
  refine zT.cnt 6 (fun k x => k ≤ nr ∧ x = (nI (cntr dn b k), nI k)) hn ⟨Nat.zero_le _, rfl⟩ ?_
  rintro j k _ hk ⟨hkr, rfl⟩ hj
  dsimp only
  rw [h9]
  refine zT.ite (fun h => ?_) (fun h => ?_)
  · rw [nI_leI (by omega) (by omega)] at h
    have e : k = nr := by omega
    subst e
    exact zT.ret rfl
  · rw [nI_leI (by omega) (by omega)] at h
    refine zT.gu (inb_n (by omega) (by decide)) ?_
    rw [ai_n _ _ (by omega), (hd k (by omega)).1, has_n (by have := (hd k (by omega)).2; omega) (by omega), flag_t, nI_add]
    refine zT.ltS (zT.ltS ?_)
    rw [nI_1]
    exact hj (by omega) _ ⟨by omega, rfl⟩
-- the reference's conditions
def codeM (s : ZSt) (p : Nat) (l : List Int32) : Prop := gi s 115 p = nI l.length ∧ ∀ k, k < l.length → gi s 114 (64 * p + k) = lF l k
def wfL (l : List Int32) : Prop := wfC (lF l) l.length
/-- what may() reads: the books, their conditions, the readers -/
def RMc (s : ZSt) (nb nr : Nat) (dn : Nat → Nat) (D : ZD) : Prop :=
  gi s 0 3 = nI nb ∧ nb ≤ 12 ∧ gi s 0 9 = nI nr ∧ nr ≤ 6 ∧ (∀ r, r < nr → gi s 113 r = nI (dn r) ∧ dn r < 4096) ∧
  (∀ b, b < nb → codeM s (2 * b) (D.1 b) ∧ codeM s (2 * b + 1) (D.2.1 b) ∧ wfL (D.1 b) ∧ wfL (D.2.1 b) ∧ gi s 106 b = nI (D.2.2.1 b) ∧ D.2.2.1 b ≤ 6 ∧ D.2.2.2 b = cntr dn b nr)
theorem codeM.on {s t : ZSt} {p : Nat} {l : List Int32} (h : codeM s p l) (h1 : ∀ j, gi t 115 j = gi s 115 j) (h2 : ∀ j, gi t 114 j = gi s 114 j) : codeM t p l :=
  ⟨by rw [h1]; exact h.1, fun k hk => by rw [h2]; exact h.2 k hk⟩
theorem RMc.on {s t : ZSt} {nb nr : Nat} {dn : Nat → Nat} {D : ZD} (h : RMc s nb nr dn D) (h3 : gi t 0 3 = gi s 0 3) (h9 : gi t 0 9 = gi s 0 9) (h113 : ∀ j, gi t 113 j = gi s 113 j) (h106 : ∀ j, gi t 106 j = gi s 106 j) (h115 : ∀ j, gi t 115 j = gi s 115 j) (h114 : ∀ j, gi t 114 j = gi s 114 j) : RMc t nb nr dn D := by
  obtain ⟨a, b, c, d, e, f⟩ := h
  refine ⟨by rw [h3]; exact a, b, by rw [h9]; exact c, d, fun r hr => by rw [h113]; exact e r hr, fun b hb => ?_⟩
  obtain ⟨f1, f2, f3, f4, f5, f6, f7⟩ := f b hb
  exact ⟨f1.on h115 h114, f2.on h115 h114, f3, f4, by rw [h106]; exact f5, f6, f7⟩
/-- what may() and its callers may change without harm to RMc -/
def noC (p : Nat → Nat → Bool) : Prop := p 0 3 = false ∧ p 0 9 = false ∧ (∀ j, p 113 j = false) ∧ (∀ j, p 106 j = false) ∧ (∀ j, p 115 j = false) ∧ (∀ j, p 114 j = false)
theorem RMc.fr {p : Nat → Nat → Bool} {s t : ZSt} {nb nr : Nat} {dn : Nat → Nat} {D : ZD} (h : RMc s nb nr dn D) (hE : zE p s t) (hp : noC p) : RMc t nb nr dn D :=
  h.on (hE.i hp.1) (hE.i hp.2.1) (fun j => hE.i (hp.2.2.1 j)) (fun j => hE.i (hp.2.2.2.1 j)) (fun j => hE.i (hp.2.2.2.2.1 j)) (fun j => hE.i (hp.2.2.2.2.2 j))
theorem noC116 : noC p116 := ⟨rfl, rfl, fun _ => rfl, fun _ => rfl, fun _ => rfl, fun _ => rfl⟩
theorem m_isSecond {n nb nr b : Nat} {dn : Nat → Nat} {D : ZD} {s : ZSt} (hn : 6 < n) (h : RMc s nb nr dn D) (hb : b < nb) : f_M_isSecond n (nI b) s = some (lat D b) := by
  obtain ⟨h3, hnb, h9, hnr, hd, hB⟩ := h
  obtain ⟨_, _, _, _, hw, hw6, hr⟩ := hB b hb
  have hr6 := cntr_le dn b nr
  apply zT.eq
  unfold f_M_isSecond
  refine zT.gu (inb_n (by omega) (by decide)) ?_
  rw [ai_n _ _ (by omega), hw]
  refine zT.jo ?_
  unfold lat
  refine zT.ite (fun h => ?_) (fun h => ?_)
  · refine zT.ret ?_
    have : D.2.2.1 b = 0 := by
      rcases Nat.eq_zero_or_pos (D.2.2.1 b) with e | e
      · exact e
      · exact absurd h (nI_nle e (by omega))
    rw [this]; simp
  · refine zT.bnE (m_readBy hn h9 hnr hd (by omega)) ?_
    have h0 : 0 < D.2.2.1 b := by
      rcases Nat.eq_zero_or_pos (D.2.2.1 b) with e | e
      · exact absurd (by rw [e]; decide) h
      · exact e
    refine zT.ite (fun h => ?_) (fun h => ?_)
    · rw [nI_ltI (by omega) (by omega)] at h
      refine zT.ret ?_
      symm
      rw [decide_eq_false_iff_not, hr]; omega
    · rw [nI_ltI (by omega) (by omega)] at h
      refine zT.ret ?_
      symm
      rw [decide_eq_true_eq, hr]; omega
theorem m_conditionOf {n nb nr b t set : Nat} {dn : Nat → Nat} {D : ZD} {s : ZSt} (hn : 60 < n) (h : RMc s nb nr dn D) (hb : b < nb) : zT (f_M_conditionOf n (nI b) (nI t) (nI set) s) (fun q => q.1 = val D b t set ∧ zE p116 s q.2) := by
  have h' := h
  obtain ⟨h3, hnb, h9, hnr, hd, hB⟩ := h
  obtain ⟨hc1, hc2, w1, w2, hw, hw6, hr⟩ := hB b hb
  unfold f_M_conditionOf
  refine zT.bnE (m_isSecond (by omega) h' hb) ?_
  refine zT.bnE (m_readBy (by omega) h9 hnr hd (by omega)) ?_
  rw [show (2 : Int32) = nI 2 from rfl, nI_mulL, flag_t, nI_add, ← hr]
  unfold val cnd
  cases hl : lat D b
  · rw [show 2 * b + false.toNat = 2 * b from rfl]
    refine zT.bnT (m_works (p := 2 * b) (nI set) (nI (D.2.2.2 b)) (nI t) hn (by omega) hc1.1 hc1.2 w1) ?_
    rintro ⟨a, u⟩ ⟨h1, h2⟩
    exact zT.ret ⟨h1, h2⟩
  · rw [show 2 * b + true.toNat = 2 * b + 1 from rfl]
    refine zT.bnT (m_works (p := 2 * b + 1) (nI set) (nI (D.2.2.2 b)) (nI t) hn (by omega) hc2.1 hc2.2 w2) ?_
    rintro ⟨a, u⟩ ⟨h1, h2⟩
    exact zT.ret ⟨h1, h2⟩
theorem m_may {n nb nr b t set : Nat} {dn : Nat → Nat} {D : ZD} {s : ZSt} (hn : 60 < n) (h : RMc s nb nr dn D) (hb : b < nb) : zT (f_M_may n (nI b) (nI t) (nI set) s) (fun q => q.1 = vmy D b t set ∧ zE p116 s q.2) := by
  unfold f_M_may
  refine zT.bnT (m_conditionOf hn h hb) ?_
  rintro ⟨a, u⟩ ⟨rfl, h2⟩
  unfold vmy
  refine zT.ite (fun h => ?_) (fun h => ?_)
  · exact zT.ret ⟨(decide_eq_false (fun q => q h)).symm, h2⟩
  · refine zT.ret ⟨?_, h2⟩
    symm
    exact decide_eq_true h
set_option maxHeartbeats 4000000 in
theorem m_settled {n nb nr t set : Nat} {dn : Nat → Nat} {D : ZD} {s : ZSt} (hn : 60 < n) (h : RMc s nb nr dn D) (hs : set < 2 ^ nb) : zT (f_M_settled n (nI t) (nI set) s) (fun q => q.1 = nI (sto (fun x => mmk D t x nb) set) ∧ zE p116 s q.2) := by
  have hnb := h.2.1
  have h12 : 2 ^ nb ≤ 4096 := Nat.pow_le_pow_right (n := 2) (by decide) hnb
  have hs12 : set < 4096 := by omega
  have hM := fun k => Nat.lt_of_le_of_lt (stl_le (fun x => mmk D t x nb) set k) hs
  unfold f_M_settled
  refine zT.cnt 13 (fun k x => x.1 = nI (stl (fun x => mmk D t x nb) set k) ∧ ((k = 0 ∧ x.2.1 = -1) ∨ (∃ q, k = q + 1 ∧ x.2.1 = nI (stl (fun x => mmk D t x nb) set q))) ∧ zE p116 s x.2.2) (by omega) ⟨rfl, Or.inl ⟨rfl, rfl⟩, zE.refl _ _⟩ ?_
  rintro j k ⟨_, w, u⟩ hk ⟨rfl, hw, hE⟩ hj
  dsimp only at *
  refine zT.ite (fun hc => ?_) (fun hc => ?_)
  · refine zT.ret ⟨?_, hE⟩
    rcases hw with ⟨_, e⟩ | ⟨q, rfl, e⟩
    · rw [e] at hc
      exact absurd hc (nI_not_m1 (by have := hM k; omega))
    · rw [e] at hc
      have h1 := hM q
      have h2 := hM (q + 1)
      rw [nI_eq (by omega) (by omega)] at hc
      show nI _ = nI _
      rw [hc, sto_at hs12 (by omega) hc]
  · have hk13 : k < 13 := by
      rcases Nat.lt_or_ge k 13 with e | e
      · exact e
      · have e : k = 13 := by omega
        subst e
        rcases hw with ⟨q, _⟩ | ⟨q, e, e2⟩
        · omega
        · have : q = 12 := by omega
          subst this
          rw [e2, stl_fix hs12] at hc
          exact absurd rfl hc
    have hjj := hj hk13
    clear hj hw hc
    have hWlt := hM k
    refine zT.cnt 12 (fun b x => b ≤ nb ∧ (∃ y, x.1 = nI y ∧ y < 4096 ∧ ∀ i, y.testBit i = ((stl (fun x => mmk D t x nb) set k).testBit i && (decide (b ≤ i) || vmy D i t (stl (fun x => mmk D t x nb) set k)))) ∧ x.2.1 = nI b ∧ zE p116 s x.2.2) (by omega) ⟨Nat.zero_le _, ⟨_, rfl, by omega, fun i => by simp⟩, rfl, hE⟩ ?_
    rintro jj b ⟨_, _, u2⟩ hb12 ⟨hb, ⟨y, rfl, hy, hyb⟩, rfl, hE2⟩ hj2
    dsimp only at *
    rw [hE2.i (o := 0) rfl, h.1]
    refine zT.ite (fun hc => ?_) (fun hc => ?_)
    · rw [nI_leI (by omega) (by omega)] at hc
      have e : b = nb := by omega
      subst e
      refine hjj _ ⟨?_, Or.inr ⟨k, rfl, rfl⟩, hE2⟩
      show nI y = nI _
      congr 1
      apply Nat.eq_of_testBit_eq
      intro i
      rw [hyb]
      show _ = (stl (fun x => mmk D t x b) set k &&& mmk D t (stl (fun x => mmk D t x b) set k) b).testBit i
      rw [Nat.testBit_and, mmk_t]
      by_cases hi : i < b
      · simp [hi, show ¬ b ≤ i by omega]
      · rw [tb_big hWlt (by omega)]; rfl
    · rw [nI_leI (by omega) (by omega)] at hc
      refine zT.jnQ (fun x7 => (∃ y, x7.1 = nI y ∧ y < 4096 ∧ ∀ i, y.testBit i = ((stl (fun x => mmk D t x nb) set k).testBit i && (decide (b + 1 ≤ i) || vmy D i t (stl (fun x => mmk D t x nb) set k)))) ∧ zE p116 s x7.2) ?_ ?_
      · rintro ⟨_, v⟩ ⟨⟨y', rfl, h1, h2⟩, h3⟩
        refine zT.ltS ?_
        rw [nI_1]
        exact hj2 (by omega) _ ⟨by omega, ⟨y', rfl, h1, h2⟩, rfl, h3⟩
      · intro j9 hj9
        -- the book stays
        have keep : ∀ v, zE p116 s v → ((stl (fun x => mmk D t x nb) set k).testBit b = true → vmy D b t (stl (fun x => mmk D t x nb) set k) = true) → zT (j9 (nI y, v)) (fun q => q.1 = nI (sto (fun x => mmk D t x nb) set) ∧ zE p116 s q.2) := fun v hv hq => hj9 _ ⟨⟨y, rfl, hy, fun i => by
            rw [hyb]
            by_cases e : i = b
            · subst e
              cases hbit : (stl (fun x => mmk D t x nb) set k).testBit i
              · rfl
              · rw [hq hbit]; simp
            · have : (b ≤ i) ↔ (b + 1 ≤ i) := by omega
              simp [this]⟩, hv⟩
        refine zT.jo ?_
        rw [has_n (by omega) (by omega)]
        refine zT.ite (fun hbit => ?_) (fun hbit => ?_)
        · refine zT.bnT (m_may (n := n) hn (h.fr hE2 noC116) (b := b) (by omega)) ?_
          rintro ⟨m, v⟩ ⟨rfl, hv⟩
          dsimp only
          refine zT.ite (fun hm => ?_) (fun hm => ?_)
          · exact keep v (hE2.trans hv) (fun _ => hm)
          · rw [show (1 : Int32) = nI 1 from rfl] at *
            rw [← show (1 : Int32) = nI 1 from rfl, shI_n (by omega), nI_andn]
            refine hj9 _ ⟨⟨_, rfl, Nat.lt_of_le_of_lt (ndf_le _ _) hy, fun i => ?_⟩, hE2.trans hv⟩
            rw [ndf_t, hyb, tb2]
            by_cases e : b = i
            · subst e
              have hm' : vmy D b t (stl (fun x => mmk D t x nb) set k) = false := by
                cases hq : vmy D b t (stl (fun x => mmk D t x nb) set k)
                · rfl
                · exact absurd hq hm
              simp [hm']
            · have : (b ≤ i) ↔ (b + 1 ≤ i) := by omega
              simp [e, this]
        · exact keep u2 hE2 (fun q => absurd q hbit)
end Z24
