-- shortest rings: what they are; how the reference looks for them
section Z55
def mkm (p : Nat → Bool) : Nat → Nat
  | 0 => 0
  | k + 1 => if p k = true then mkm p k ||| 2 ^ k else mkm p k
theorem mkm_s (p : Nat → Bool) (k : Nat) : mkm p (k + 1) = if p k = true then mkm p k ||| 2 ^ k else mkm p k := rfl
theorem mkm_t (p : Nat → Bool) (k i : Nat) : (mkm p k).testBit i = (decide (i < k) && p i) := by
  induction k with
  | zero => simp [mkm]
  | succ k ih =>
    rw [mkm_s]
    by_cases q : p k = true
    · rw [if_pos q, Nat.testBit_or, ih, tb2]
      by_cases e : k = i
      · subst e; simp [q]
      · rw [decide_eq_false e, Bool.or_false]
        by_cases w : i < k
        · rw [decide_eq_true w, decide_eq_true (show i < k + 1 by omega)]
        · rw [decide_eq_false w, decide_eq_false (show ¬ i < k + 1 by omega)]
    · rw [if_neg q, ih]
      by_cases e : k = i
      · subst e; simp [q]
      · by_cases w : i < k
        · rw [decide_eq_true w, decide_eq_true (show i < k + 1 by omega)]
        · rw [decide_eq_false w, decide_eq_false (show ¬ i < k + 1 by omega)]
theorem mkm_lt (p : Nat → Bool) (k : Nat) : mkm p k < 2 ^ k := by
  induction k with
  | zero => exact Nat.one_pos
  | succ k ih =>
    rw [mkm_s]
    have : 2 ^ k < 2 ^ (k + 1) := p2_lt (Nat.lt_succ_self k)
    split
    · exact or_lt (by omega) this
    · omega
/-- whence the start b is reached in l steps, by those from b on -/
def nr (g : Nat → Nat) (b N : Nat) : Nat → Nat
  | 0 => 2 ^ b
  | l + 1 => mkm (fun u => decide (b ≤ u) && decide (g u &&& nr g b N l ≠ 0)) N
theorem nr_s (g : Nat → Nat) (b N l : Nat) : nr g b N (l + 1) = mkm (fun u => decide (b ≤ u) && decide (g u &&& nr g b N l ≠ 0)) N := rfl
theorem nr_lt {g : Nat → Nat} {b N : Nat} (hb : b < N) (l : Nat) : nr g b N l < 2 ^ N := by
  cases l with
  | zero => exact p2_lt hb
  | succ l => exact mkm_lt _ _
theorem and_ne {x y : Nat} : x &&& y ≠ 0 ↔ ∃ v, x.testBit v = true ∧ y.testBit v = true := by
  constructor
  · intro h
    refine Classical.byContradiction (fun q => h (Nat.eq_of_testBit_eq (fun i => ?_)))
    rw [Nat.testBit_and, Nat.zero_testBit]
    cases h1 : x.testBit i
    · rfl
    · cases h2 : y.testBit i
      · rfl
      · exact absurd ⟨i, h1, h2⟩ q
  · rintro ⟨v, h1, h2⟩ h
    have := congrArg (fun z => z.testBit v) h
    simp [Nat.testBit_and, h1, h2] at this
theorem nr_t {g : Nat → Nat} {b N l u : Nat} : (nr g b N (l + 1)).testBit u = true ↔ u < N ∧ b ≤ u ∧ ∃ v, (g u).testBit v = true ∧ (nr g b N l).testBit v = true := by
  rw [nr_s, mkm_t, Bool.and_eq_true, Bool.and_eq_true, decide_eq_true_eq, decide_eq_true_eq, decide_eq_true_eq, and_ne]
theorem nr_ge {g : Nat → Nat} {b N l u : Nat} (hb : b < N) (h : (nr g b N l).testBit u = true) : b ≤ u ∧ u < N := by
  cases l with
  | zero =>
    rw [show nr g b N 0 = 2 ^ b from rfl, tb2, decide_eq_true_eq] at h
    omega
  | succ l => have := nr_t.mp h; exact ⟨this.2.1, this.1⟩
/-- the way of those, each the lowest -/
def pv (g : Nat → Nat) (b N L : Nat) : Nat → Nat
  | 0 => b
  | t + 1 => ff (fun v => (g (pv g b N L t) &&& nr g b N (L - t - 1)).testBit v) 12
theorem pv_s (g : Nat → Nat) (b N L t : Nat) : pv g b N L (t + 1) = ff (fun v => (g (pv g b N L t) &&& nr g b N (L - t - 1)).testBit v) 12 := rfl
theorem ff_sp {p : Nat → Bool} {n v : Nat} (hv : v < n) (hp : p v = true) : p (ff p n) = true ∧ ff p n ≤ v ∧ ∀ j, j < ff p n → p j = false := by
  have key : ∀ m, m ≤ n → (∃ b, b < m ∧ p b = true ∧ ∀ j, j < b → p j = false) ∨ (∀ b, b < m → p b = false) := by
    intro m
    induction m with
    | zero => intro _; exact Or.inr (fun b hb => absurd hb (Nat.not_lt_zero _))
    | succ k ih =>
      intro hk
      rcases ih (by omega) with ⟨b, hb, h1, h2⟩ | h
      · exact Or.inl ⟨b, by omega, h1, h2⟩
      · cases q : p k
        · refine Or.inr (fun b hb => ?_)
          by_cases e : b = k
          · rw [e, q]
          · exact h b (by omega)
        · exact Or.inl ⟨k, by omega, q, h⟩
  rcases key n (Nat.le_refl _) with ⟨b, hb, h1, h2⟩ | h
  · rw [ff_at hb h1 h2]
    refine ⟨h1, ?_, h2⟩
    rcases Nat.lt_or_ge v b with q | q
    · have := h2 v q; rw [hp] at this; cases this
    · exact q
  · have := h v hv; rw [hp] at this; cases this
section
variable {g : Nat → Nat} {b N L : Nat}
theorem nx_sp (hb : b < N) (hN : N ≤ 12) {u l : Nat} (h : (nr g b N (l + 1)).testBit u = true) : (g u).testBit (ff (fun v => (g u &&& nr g b N l).testBit v) 12) = true ∧ (nr g b N l).testBit (ff (fun v => (g u &&& nr g b N l).testBit v) 12) = true ∧ ∀ j, j < ff (fun v => (g u &&& nr g b N l).testBit v) 12 → (g u).testBit j = true → (nr g b N l).testBit j = false := by
  obtain ⟨q1, q2, v, h1, h2⟩ := nr_t.mp h
  have hv := (nr_ge hb h2).2
  obtain ⟨r1, r2, r3⟩ := ff_sp (p := fun v => (g u &&& nr g b N l).testBit v) (n := 12) (v := v) (by omega) (by
    show (g u &&& nr g b N l).testBit v = true
    rw [Nat.testBit_and, h1, h2]; rfl)
  have r1 : (g u &&& nr g b N l).testBit (ff (fun v => (g u &&& nr g b N l).testBit v) 12) = true := r1
  rw [Nat.testBit_and, Bool.and_eq_true] at r1
  refine ⟨r1.1, r1.2, fun j hj hg => ?_⟩
  have := r3 j hj
  have this : (g u &&& nr g b N l).testBit j = false := this
  rw [Nat.testBit_and, hg, Bool.true_and] at this
  exact this
theorem pv_in (hb : b < N) (hN : N ≤ 12) (hc : (nr g b N L).testBit b = true) : ∀ j, j ≤ L → (nr g b N (L - j)).testBit (pv g b N L j) = true := by
  intro j
  induction j with
  | zero => intro _; exact hc
  | succ j ih =>
    intro hj
    have h := ih (by omega)
    rw [show L - j = (L - j - 1) + 1 by omega] at h
    have := (nx_sp hb hN h).2.1
    rw [pv_s]
    exact this
theorem pv_e (hb : b < N) (hN : N ≤ 12) (hc : (nr g b N L).testBit b = true) {j : Nat} (hj : j < L) : (g (pv g b N L j)).testBit (pv g b N L (j + 1)) = true := by
  have h := pv_in hb hN hc j (by omega)
  rw [show L - j = (L - j - 1) + 1 by omega] at h
  rw [pv_s]
  exact (nx_sp hb hN h).1
theorem pv_lt (hb : b < N) (hN : N ≤ 12) (hc : (nr g b N L).testBit b = true) {j : Nat} (hj : j ≤ L) : b ≤ pv g b N L j ∧ pv g b N L j < N := nr_ge hb (pv_in hb hN hc j hj)
theorem pv_bk (hb : b < N) (hN : N ≤ 12) (hc : (nr g b N L).testBit b = true) : ∀ j l, j ≤ L → (nr g b N l).testBit (pv g b N L j) = true → (nr g b N (l + j)).testBit b = true := by
  intro j
  induction j with
  | zero => intro l _ h; exact h
  | succ j ih =>
    intro l hj h
    have hr := pv_lt hb hN hc (show j ≤ L by omega)
    have := ih (l + 1) (by omega) (nr_t.mpr ⟨hr.2, hr.1, _, pv_e hb hN hc (show j < L by omega), h⟩)
    rw [show l + (j + 1) = l + 1 + j by omega]
    exact this
end
def p131 (pos : Nat) : Nat → Nat → Bool := fun o j => o == 131 && decide (pos ≤ j)
/-- the links -/
def lkM (s : ZSt) (g : Nat → Nat) (N : Nat) : Prop := ∀ u, u < N → gi s 130 u = nI (g u) ∧ g u < 2 ^ N
theorem lkM.fr {s t : ZSt} {g : Nat → Nat} {N pos : Nat} (h : lkM s g N) (hE : zE (p131 pos) s t) : lkM t g N := fun u hu => ⟨(hE.i rfl).trans (h u hu).1, (h u hu).2⟩
theorem m_ringsF {n q : Nat} {g : Nat → Nat} {b N len : Nat} (hn : 100 < n) (hb : b < N) (hN : N ≤ 12) (hl : len ≤ N) : ∀ d pos u used (s : ZSt), len - pos < d → d ≤ q + 1 → 1 ≤ pos → pos ≤ len → lkM s g N → gi s 131 0 = nI b → gi s 131 (pos - 1) = nI u → b ≤ u → u < N → used < 4096 → (nr g b N (len - pos + 1)).testBit u = false → zT (fx_M_rings n d (nI pos) (nI len) (nI used) s) (fun r => r.1 = false ∧ zE (p131 pos) s r.2) := by
  intro d
  induction d with
  | zero => intro pos u used s h1; omega
  | succ d ih =>
    intro pos u used s h1 h2 h3 h4 hk h5 h6 h7 h8 h9 h10
    have hp12 : 2 ^ N ≤ 4096 := Nat.pow_le_pow_right (n := 2) (by decide) hN
    have hgu := (hk u h8).2
    show zT (f_M_rings (fx_M_rings n d) n (nI pos) (nI len) (nI used) s) _
    unfold f_M_rings
    rw [show nI pos - 1 = nI (pos - 1) from by rw [show pos = (pos - 1) + 1 by omega, nI_pred, Nat.add_sub_cancel]]
    refine zT.gu (inb_n (by omega) (by decide)) ?_
    rw [ai_n _ _ (by omega), h6]
    refine zT.ltS ?_
    refine zT.ite (fun c => ?_) (fun c => ?_)
    · have c : pos = len := (nI_eq (by omega) (by omega)).mp c
      refine zT.gu (inb_n (by omega) (by decide)) (zT.ret ⟨?_, zE.refl _ _⟩)
      rw [ai_n _ _ (by omega), (hk u h8).1, show ai s 131 (0 : Int32) = gi s 131 0 from rfl, h5, has_n (by omega) (by omega)]
      cases q : (g u).testBit b
      · rfl
      · subst c
        rw [show pos - pos + 1 = 0 + 1 by omega] at h10
        rw [nr_t.mpr ⟨h8, h7, b, q, by rw [show nr g b N 0 = 2 ^ b from rfl, tb2]; simp⟩] at h10
        cases h10
    · have hlt : pos < len := by
        rcases Nat.lt_or_ge pos len with q | q
        · exact q
        · exact absurd (by rw [show pos = len by omega]) c
      rw [show ai s 131 (0 : Int32) = gi s 131 0 from rfl, h5, nI_1]
      refine zT.ltS ?_
      refine zT.cnt 12 (fun k x => b + 1 + k ≤ 12 ∧ x.1 = nI (b + 1 + k) ∧ zE (p131 pos) s x.2) (by omega) ⟨by omega, rfl, zE.refl _ _⟩ ?_
      rintro j k ⟨_, t⟩ hk' ⟨hk12, rfl, hE⟩ hj
      dsimp only at *
      refine zT.ite (fun c1 => zT.ret ⟨rfl, hE⟩) (fun c1 => ?_)
      rw [show (12 : Int32) = nI 12 from rfl, nI_leI (by omega) (by omega)] at c1
      have hgo : ∀ t', zE (p131 pos) s t' → zT (j (nI (b + 1 + k) + 1, t')) (fun r => r.1 = false ∧ zE (p131 pos) s r.2) := fun t' hE' => by
        rw [nI_1]
        exact hj (by omega) _ ⟨by omega, rfl, hE'⟩
      refine zT.gu (inb_n (by omega) (by decide)) ?_
      refine zT.jnQ (fun y => zE (p131 pos) s y) (fun y hy => zT.ltS (hgo y hy)) ?_
      intro j12 hj12
      rw [ai_n _ _ (by omega), hE.i (o := 130) rfl, (hk u h8).1, has_n (by omega) (by omega)]
      refine zT.ite (fun c2 => ?_) (fun c2 => hj12 _ hE)
      rw [has_n (by omega) (by omega)]
      refine zT.ite (fun c3 => hj12 _ hE) (fun c3 => ?_)
      refine zT.gu (inb_n (by omega) (by decide)) ?_
      rw [sai_n _ _ _ (by omega), shI_n (by omega), nI_or, nI_1]
      refine zT.ltS ?_
      have hvN : b + 1 + k < N := by
        rcases Nat.lt_or_ge (b + 1 + k) N with q | q
        · exact q
        · rw [tb_big hgu q] at c2; cases c2
      have hE3 : zE (p131 pos) s (si t 131 pos (nI (b + 1 + k))) := hE.wi (by simp [p131])
      have hor : used ||| 2 ^ (b + 1 + k) < 4096 := or_lt (nb := 12) h9 (p2_lt (show b + 1 + k < 12 by omega))
      refine zT.bnT (ih (pos + 1) (b + 1 + k) (used ||| 2 ^ (b + 1 + k)) _ (by omega) (by omega) (by omega) (by omega) (hk.fr hE3) ((hE3.i (by simp [p131]; omega)).trans h5) (by
        rw [Nat.add_sub_cancel, gi_i, if_pos ⟨rfl, rfl⟩]) (by omega) hvN hor ?_) ?_
      · rw [show len - (pos + 1) + 1 = len - pos by omega]
        cases q : (nr g b N (len - pos)).testBit (b + 1 + k)
        · rfl
        · rw [nr_t.mpr ⟨h8, h7, _, c2, q⟩] at h10
          cases h10
      · rintro ⟨_, w⟩ ⟨rfl, hE4⟩
        refine zT.ie (show ¬ (false = true) by decide) (hj12 _ ?_)
        exact hE3.trans (hE4.mono (fun o j e => by simp [p131] at *; intro h; have := e h; omega))
theorem m_ringsT {n q : Nat} {g : Nat → Nat} {b N L : Nat} (hn : 100 < n) (hb : b < N) (hN : N ≤ 12) (hl : L ≤ N) (hc : (nr g b N L).testBit b = true) (hm : ∀ l, 1 ≤ l → l < L → (nr g b N l).testBit b = false) : ∀ d pos used (s : ZSt), L - pos < d → d ≤ q + 1 → 1 ≤ pos → pos ≤ L → lkM s g N → (∀ j, j < pos → gi s 131 j = nI (pv g b N L j)) → used < 4096 → (∀ v, used.testBit v = true → ∃ j, j < pos ∧ v = pv g b N L j) → zT (fx_M_rings n d (nI pos) (nI L) (nI used) s) (fun r => r.1 = true ∧ zE (p131 pos) s r.2 ∧ ∀ j, j < L → gi r.2 131 j = nI (pv g b N L j)) := by
  intro d
  induction d with
  | zero => intro pos used s h1; omega
  | succ d ih =>
    intro pos used s h1 h2 h3 h4 hk h5 h9 h10
    have hp12 : 2 ^ N ≤ 4096 := Nat.pow_le_pow_right (n := 2) (by decide) hN
    have h6 := h5 (pos - 1) (by omega)
    have h50 : gi s 131 0 = nI b := h5 0 (by omega)
    have hin := pv_in hb hN hc (pos - 1) (by omega)
    generalize hu : pv g b N L (pos - 1) = u at h6 hin
    rw [show L - (pos - 1) = (L - pos) + 1 by omega] at hin
    obtain ⟨h7, h8⟩ := nr_ge hb hin
    have hgu := (hk u h8).2
    show zT (f_M_rings (fx_M_rings n d) n (nI pos) (nI L) (nI used) s) _
    unfold f_M_rings
    rw [show nI pos - 1 = nI (pos - 1) from by rw [show pos = (pos - 1) + 1 by omega, nI_pred, Nat.add_sub_cancel]]
    refine zT.gu (inb_n (by omega) (by decide)) ?_
    rw [ai_n _ _ (by omega), h6]
    refine zT.ltS ?_
    refine zT.ite (fun c => ?_) (fun c => ?_)
    · have c : pos = L := (nI_eq (by omega) (by omega)).mp c
      refine zT.gu (inb_n (by omega) (by decide)) (zT.ret ⟨?_, zE.refl _ _, fun j hj => h5 j (by omega)⟩)
      rw [ai_n _ _ (by omega), (hk u h8).1, show ai s 131 (0 : Int32) = gi s 131 0 from rfl, h50, has_n (by omega) (by omega)]
      subst c
      rw [show pos - pos = 0 by omega] at hin
      obtain ⟨_, _, v, q1, q2⟩ := nr_t.mp hin
      rw [show nr g b N 0 = 2 ^ b from rfl, tb2, decide_eq_true_eq] at q2
      rw [q2]; exact q1
    · have hlt : pos < L := by
        rcases Nat.lt_or_ge pos L with q | q
        · exact q
        · exact absurd (by rw [show pos = L by omega]) c
      obtain ⟨e1, e2, e3⟩ := nx_sp hb hN (show (nr g b N ((L - pos - 1) + 1 + 1)).testBit u = true by rw [show L - pos - 1 + 1 = L - pos by omega]; exact hin)
      rw [show L - pos - 1 + 1 = L - pos by omega] at e1 e2 e3
      have epv : pv g b N L pos = ff (fun v => (g u &&& nr g b N (L - pos)).testBit v) 12 := by
        rw [show pos = (pos - 1) + 1 by omega, pv_s, hu, show L - (pos - 1) - 1 = L - (pos - 1 + 1) by omega]
      rw [← epv] at e1 e2 e3
      obtain ⟨w1, w2⟩ := pv_lt hb hN hc (show pos ≤ L by omega)
      have hne : ∀ j, j < pos → pv g b N L pos ≠ pv g b N L j := fun j hj w => by
        rw [w] at e2
        have := pv_bk hb hN hc j (L - pos) (by omega) e2
        rw [hm _ (by omega) (by omega)] at this
        cases this
      have hbv : b < pv g b N L pos := by
        have := hne 0 (by omega)
        have this : pv g b N L pos ≠ b := this
        omega
      rw [show ai s 131 (0 : Int32) = gi s 131 0 from rfl, h50, nI_1]
      refine zT.ltS ?_
      refine zT.cnt (pv g b N L pos - (b + 1)) (fun k x => b + 1 + k ≤ pv g b N L pos ∧ x.1 = nI (b + 1 + k) ∧ zE (p131 pos) s x.2) (by omega) ⟨by omega, rfl, zE.refl _ _⟩ ?_
      rintro j k ⟨_, t⟩ hk' ⟨hk12, rfl, hE⟩ hj
      dsimp only at *
      refine zT.ie (by rw [show (12 : Int32) = nI 12 from rfl, nI_leI (by omega) (by omega)]; omega) ?_
      refine zT.gu (inb_n (by omega) (by decide)) ?_
      by_cases hlast : b + 1 + k = pv g b N L pos
      · refine zT.jnQ (fun _ => False) (fun _ hF => hF.elim) ?_
        intro j12 hj12
        rw [ai_n _ _ (by omega), hE.i (o := 130) rfl, (hk u h8).1, has_n (by omega) (by omega)]
        refine zT.it (by rw [hlast]; exact e1) ?_
        rw [has_n (by omega) (by omega)]
        refine zT.ie (fun w => ?_) ?_
        · obtain ⟨i, hi, e⟩ := h10 _ w
          exact hne i hi (by omega)
        refine zT.gu (inb_n (by omega) (by decide)) ?_
        rw [sai_n _ _ _ (by omega), shI_n (by omega), nI_or, nI_1]
        refine zT.ltS ?_
        have hE3 : zE (p131 pos) s (si t 131 pos (nI (b + 1 + k))) := hE.wi (by simp [p131])
        have hor : used ||| 2 ^ (b + 1 + k) < 4096 := or_lt (nb := 12) h9 (p2_lt (show b + 1 + k < 12 by omega))
        refine zT.bnT (ih (pos + 1) (used ||| 2 ^ (b + 1 + k)) _ (by omega) (by omega) (by omega) (by omega) (hk.fr hE3) (fun i hi => ?_) hor (fun v hv => ?_)) ?_
        · rw [gi_i]
          by_cases e : i = pos
          · rw [if_pos ⟨rfl, e⟩, e, hlast]
          · rw [if_neg (fun w => e w.2), hE.i (by simp [p131]; omega)]; exact h5 i (by omega)
        · rw [Nat.testBit_or, tb2, Bool.or_eq_true, decide_eq_true_eq] at hv
          rcases hv with hv | hv
          · obtain ⟨i, hi, e⟩ := h10 v hv
            exact ⟨i, by omega, e⟩
          · exact ⟨pos, by omega, by omega⟩
        · rintro ⟨_, w⟩ ⟨rfl, hE4, hw⟩
          refine zT.it rfl (zT.ret ⟨rfl, ?_, hw⟩)
          exact hE3.trans (hE4.mono (fun o j e => by simp [p131] at *; intro h; have := e h; omega))
      · have hgo : ∀ t', zE (p131 pos) s t' → zT (j (nI (b + 1 + k) + 1, t')) (fun r => r.1 = true ∧ zE (p131 pos) s r.2 ∧ ∀ j, j < L → gi r.2 131 j = nI (pv g b N L j)) := fun t' hE' => by
          rw [nI_1]
          exact hj (by omega) _ ⟨by omega, rfl, hE'⟩
        refine zT.jnQ (fun y => zE (p131 pos) s y) (fun y hy => zT.ltS (hgo y hy)) ?_
        intro j12 hj12
        rw [ai_n _ _ (by omega), hE.i (o := 130) rfl, (hk u h8).1, has_n (by omega) (by omega)]
        refine zT.ite (fun c2 => ?_) (fun c2 => hj12 _ hE)
        rw [has_n (by omega) (by omega)]
        refine zT.ite (fun c3 => hj12 _ hE) (fun c3 => ?_)
        refine zT.gu (inb_n (by omega) (by decide)) ?_
        rw [sai_n _ _ _ (by omega), shI_n (by omega), nI_or, nI_1]
        refine zT.ltS ?_
        have hE3 : zE (p131 pos) s (si t 131 pos (nI (b + 1 + k))) := hE.wi (by simp [p131])
        have hor : used ||| 2 ^ (b + 1 + k) < 4096 := or_lt (nb := 12) h9 (p2_lt (show b + 1 + k < 12 by omega))
        refine zT.bnT (m_ringsF (q := q) hn hb hN hl d (pos + 1) (b + 1 + k) (used ||| 2 ^ (b + 1 + k)) _ (by omega) (by omega) (by omega) (by omega) (hk.fr hE3) ((hE3.i (by simp [p131]; omega)).trans h50) (by
          rw [Nat.add_sub_cancel, gi_i, if_pos ⟨rfl, rfl⟩]) (by omega) (by omega) hor ?_) ?_
        · rw [show L - (pos + 1) + 1 = L - pos by omega]
          exact e3 _ (by omega) c2
        · rintro ⟨_, w⟩ ⟨rfl, hE4⟩
          refine zT.ie (show ¬ (false = true) by decide) (hj12 _ ?_)
          exact hE3.trans (hE4.mono (fun o j e => by simp [p131] at *; intro h; have := e h; omega))
end Z55
