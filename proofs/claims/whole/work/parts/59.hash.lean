-- what is found, in its order; where the class keeps it
section Z59
/-- what is found: how much; the state, whence, by which act, how far -/
abbrev ZQ : Type := Nat × (Nat → Nat) × (Nat → Int32) × (Nat → Int32) × (Nat → Nat)
def qadd (Q : ZQ) (c : Nat) (f a : Int32) (d : Nat) : ZQ := (Q.1 + 1, ups Q.2.1 Q.1 c, ups Q.2.2.1 Q.1 f, ups Q.2.2.2.1 Q.1 a, ups Q.2.2.2.2 Q.1 d)
def qat (Q : ZQ) (c : Nat) : Nat := ff (fun i => decide (Q.2.1 i = c)) Q.1
def qds (Q : ZQ) : Prop := ∀ i j, i < Q.1 → j < Q.1 → Q.2.1 i = Q.2.1 j → i = j
theorem qat_in {Q : ZQ} (h : qds Q) {i : Nat} (hi : i < Q.1) : qat Q (Q.2.1 i) = i :=
  ff_at hi (decide_eq_true rfl) (fun j hj => decide_eq_false (fun e => by have := h j i (by omega) hi e; omega))
theorem qat_no {Q : ZQ} {c : Nat} (h : ∀ i, i < Q.1 → Q.2.1 i ≠ c) : qat Q c = Q.1 := ff_no (fun i hi => decide_eq_false (h i hi))
theorem qat_cases (Q : ZQ) (c : Nat) : (qat Q c < Q.1 ∧ Q.2.1 (qat Q c) = c) ∨ (qat Q c = Q.1 ∧ ∀ i, i < Q.1 → Q.2.1 i ≠ c) := by
  by_cases q : ∃ i, i < Q.1 ∧ Q.2.1 i = c
  · obtain ⟨i, h1, h2⟩ := q
    obtain ⟨r1, r2, r3⟩ := ff_sp (p := fun i => decide (Q.2.1 i = c)) h1 (decide_eq_true h2)
    exact Or.inl ⟨Nat.lt_of_le_of_lt r2 h1, of_decide_eq_true r1⟩
  · have : ∀ i, i < Q.1 → Q.2.1 i ≠ c := fun i hi e => q ⟨i, hi, e⟩
    exact Or.inr ⟨qat_no this, this⟩
theorem qds_add {Q : ZQ} (h : qds Q) {c : Nat} {f a : Int32} {d : Nat} (hc : ∀ i, i < Q.1 → Q.2.1 i ≠ c) : qds (qadd Q c f a d) := by
  intro i j hi hj e
  have hi : i < Q.1 + 1 := hi
  have hj : j < Q.1 + 1 := hj
  have e : ups Q.2.1 Q.1 c i = ups Q.2.1 Q.1 c j := e
  rw [ups_i, ups_i] at e
  by_cases q1 : i = Q.1
  · by_cases q2 : j = Q.1
    · omega
    · rw [if_pos q1, if_neg q2] at e
      exact absurd e.symm (hc j (by omega))
  · by_cases q2 : j = Q.1
    · rw [if_neg q1, if_pos q2] at e
      exact absurd e (hc i (by omega))
    · rw [if_neg q1, if_neg q2] at e
      exact h i j (by omega) (by omega) e
/-- a table of places, hashed -/
def HT (h : Nat → Nat) (cell slot code : Nat → Nat) (len : Nat) : Prop :=
  (∀ p, p < 16384 → cell p ≤ len ∧ (cell p ≠ 0 → slot (cell p - 1) = p)) ∧
  (∀ i, i < len → slot i < 16384 ∧ cell (slot i) = i + 1 ∧ ∃ d, slot i = (h (code i) + d) % 16384 ∧ ∀ j, j < d → cell ((h (code i) + j) % 16384) ≠ 0) ∧ len ≤ 5000
section
variable {h cell slot code : Nat → Nat} {len : Nat}
theorem HT.full (hT : HT h cell slot code len) (x : Nat) (hf : ∀ j, j < 16384 → cell ((x + j) % 16384) ≠ 0) : False := by
  obtain ⟨h1, h2, h3⟩ := hT
  -- each index has one place, so 5001 places are not all taken
  obtain ⟨r, hr, hno⟩ := pig 5001 5000 (fun i => (slot i + (16384 * (x / 16384 + 1) - x)) % 16384) (by omega)
  have hc := hf r (by omega)
  have hp := h1 ((x + r) % 16384) (Nat.mod_lt _ (by decide))
  have := hno (cell ((x + r) % 16384) - 1) (by omega)
  apply this
  show (slot (cell ((x + r) % 16384) - 1) + (16384 * (x / 16384 + 1) - x)) % 16384 = r
  rw [hp.2 hc]
  omega
theorem HT.miss (hT : HT h cell slot code len) {c k : Nat} (h0 : cell ((h c + k) % 16384) = 0) (hw : ∀ j, j < k → cell ((h c + j) % 16384) ≠ 0 ∧ code (cell ((h c + j) % 16384) - 1) ≠ c) : ∀ i, i < len → code i ≠ c := by
  intro i hi e
  obtain ⟨_, g2, d, g3, g4⟩ := hT.2.1 i hi
  rw [e] at g3 g4
  rcases Nat.lt_trichotomy d k with q | q | q
  · have := (hw d q).2
    rw [← g3, g2, Nat.add_sub_cancel] at this
    exact this e
  · rw [q] at g3
    rw [← g3, g2] at h0
    omega
  · exact g4 k q h0
theorem HT.add (hT : HT h cell slot code len) {c k : Nat} (hl : len < 5000) (h0 : cell ((h c + k) % 16384) = 0) (hw : ∀ j, j < k → cell ((h c + j) % 16384) ≠ 0) : HT h (ups cell ((h c + k) % 16384) (len + 1)) (ups slot len ((h c + k) % 16384)) (ups code len c) (len + 1) := by
  obtain ⟨h1, h2, h3⟩ := hT
  have hn : ∀ p, cell p ≠ 0 → ups cell ((h c + k) % 16384) (len + 1) p ≠ 0 := fun p hp => by
    rw [ups_i]
    split
    · omega
    · exact hp
  refine ⟨fun p hp => ?_, fun i hi => ?_, hl⟩
  · rw [ups_i]
    by_cases e : p = (h c + k) % 16384
    · rw [if_pos e]
      exact ⟨Nat.le_refl _, fun _ => by rw [Nat.add_sub_cancel, ups_i, if_pos rfl, e]⟩
    · rw [if_neg e]
      obtain ⟨q1, q2⟩ := h1 p hp
      refine ⟨by omega, fun q => ?_⟩
      rw [ups_i, if_neg (by omega)]
      exact q2 q
  · rw [ups_i, ups_i code]
    by_cases e : i = len
    · rw [if_pos e, if_pos e]
      exact ⟨Nat.mod_lt _ (by decide), by rw [ups_i, if_pos rfl, e], k, rfl, fun j hj => hn _ (hw j hj)⟩
    · rw [if_neg e, if_neg e]
      obtain ⟨q1, q2, d, q3, q4⟩ := h2 i (by omega)
      refine ⟨q1, ?_, d, q3, fun j hj => hn _ (q4 j hj)⟩
      rw [ups_i, if_neg (fun w => by rw [w] at q2; rw [h0] at q2; omega)]
      exact q2
end
theorem lg_0 (x y : Int64) : lg_cmp x y = 0 ↔ x = y := by
  unfold lg_cmp
  by_cases q : x = y
  · subst q
    simp
  · by_cases h : x > y
    · simp [h, q]
    · simp [h, q]
theorem nI_self (y : Int32) : nI y.toUInt32.toNat = y := by
  apply Int32.toBitVec.inj
  simp [nI]
theorem usr18 (y : Int32) : ∃ v, v < 16384 ∧ usrI y 18 = nI v := by
  have hb : y.toUInt32.toNat < 2 ^ 32 := y.toUInt32.toNat_lt
  refine ⟨y.toUInt32.toNat >>> 18, ?_, ?_⟩
  · rw [Nat.shiftRight_eq_div_pow]
    omega
  · have := usrI_n (k := 18) hb (by decide)
    rw [nI_self] at this
    exact this
/-- where the class looks first -/
noncomputable def hX (c : Nat) : Nat := Classical.choose (usr18 ((lN c ^^^ (usrL (lN c) (21 : Int32))).toInt32 * (-1640531535 : Int32)))
theorem hX_lt (c : Nat) : hX c < 16384 := (Classical.choose_spec (usr18 ((lN c ^^^ (usrL (lN c) (21 : Int32))).toInt32 * (-1640531535 : Int32)))).1
theorem hX_e (c : Nat) : usrI ((lN c ^^^ (usrL (lN c) (21 : Int32))).toInt32 * (-1640531535 : Int32)) (18 : Int32) = nI (hX c) := (Classical.choose_spec (usr18 ((lN c ^^^ (usrL (lN c) (21 : Int32))).toInt32 * (-1640531535 : Int32)))).2
/-- the class's table -/
def XH (s : ZSt) (Q : ZQ) (cell slot : Nat → Nat) : Prop :=
  gi s 202 5 = nI Q.1 ∧ (∀ i, i < Q.1 → gl s 260 i = lN (Q.2.1 i) ∧ Q.2.1 i < 2 ^ 36 ∧ gi s 261 i = Q.2.2.1 i ∧ gi s 262 i = Q.2.2.2.1 i ∧ gi s 263 i = nI (Q.2.2.2.2 i) ∧ gi s 267 i = nI (slot i)) ∧
  (∀ p, p < 16384 → gi s 266 p = nI (cell p)) ∧ HT hX cell slot Q.2.1 Q.1 ∧ qds Q
theorem XH.find {s : ZSt} {Q : ZQ} {cell slot : Nat → Nat} {n c : Nat} (hn : 20000 < n) (hc : c < 2 ^ 36) (h : XH s Q cell slot) : zT (f_S_slotOf n (lN c) s) (fun r => ∃ k, r = nI ((hX c + k) % 16384) ∧ (∀ j, j < k → cell ((hX c + j) % 16384) ≠ 0 ∧ Q.2.1 (cell ((hX c + j) % 16384) - 1) ≠ c) ∧ (cell ((hX c + k) % 16384) ≠ 0 → Q.2.1 (cell ((hX c + k) % 16384) - 1) = c)) := by
  obtain ⟨h1, h2, h3, h4, h5⟩ := h
  have h5k := h4.2.2
  unfold f_S_slotOf
  refine zT.ltS ?_
  rw [hX_e]
  refine zT.ltS ?_
  have hx := hX_lt c
  refine zT.cnt 16384 (fun k x => x.1 = nI ((hX c + k) % 16384) ∧ x.2 = nI k ∧ ∀ j, j < k → cell ((hX c + j) % 16384) ≠ 0 ∧ Q.2.1 (cell ((hX c + j) % 16384) - 1) ≠ c) (by omega) ⟨by rw [Nat.add_zero, Nat.mod_eq_of_lt hx], rfl, fun j hj => absurd hj (Nat.not_lt_zero _)⟩ ?_
  rintro j k ⟨_, _⟩ hk ⟨rfl, rfl, f1⟩ hj
  dsimp only at *
  refine zT.ite (fun q => ?_) (fun q => ?_)
  · rw [show (16384 : Int32) = nI 16384 from rfl, nI_leI (by omega) (by omega)] at q
    have e : k = 16384 := by omega
    subst e
    exact (h4.full _ (fun j hj => (f1 j hj).1)).elim
  · rw [show (16384 : Int32) = nI 16384 from rfl, nI_leI (by omega) (by omega)] at q
    have hp : (hX c + k) % 16384 < 16384 := Nat.mod_lt _ (by decide)
    have hcl := (h4.1 _ hp).1
    refine zT.gu (inb_n hp (by decide)) ?_
    rw [ai_n _ _ (by omega), h3 _ hp]
    refine zT.ite (fun c0 => ?_) (fun c0 => ?_)
    · have c0 := (nI_eq (b := 0) (by omega) (by decide)).mp c0
      exact zT.ret ⟨k, rfl, f1, fun w => absurd c0 w⟩
    · have c0 : cell ((hX c + k) % 16384) ≠ 0 := fun w => c0 (by rw [w]; rfl)
      rw [show nI (cell ((hX c + k) % 16384)) - 1 = nI (cell ((hX c + k) % 16384) - 1) from by
        rw [show cell ((hX c + k) % 16384) = (cell ((hX c + k) % 16384) - 1) + 1 by omega, nI_pred, Nat.add_sub_cancel]]
      refine zT.gu (inb_n (by omega) (by decide)) ?_
      obtain ⟨g1, g2, _⟩ := h2 (cell ((hX c + k) % 16384) - 1) (by omega)
      rw [al_n _ _ (by omega), g1]
      refine zT.ite (fun c1 => ?_) (fun c1 => ?_)
      · have c1 := lN_inj (by omega) (by omega) ((lg_0 _ _).mp c1)
        exact zT.ret ⟨k, rfl, f1, fun _ => c1⟩
      · have c1 : Q.2.1 (cell ((hX c + k) % 16384) - 1) ≠ c := fun w => c1 ((lg_0 _ _).mpr (by rw [w]))
        rw [nI_1, nI_1, show (16383 : Int32) = nI 16383 from rfl, nI_and]
        refine zT.ltS (zT.ltS (hj (by omega) _ ⟨?_, rfl, fun j hj => ?_⟩))
        · dsimp only
          rw [show (16383 : Nat) = 2 ^ 14 - 1 from rfl, Nat.and_two_pow_sub_one_eq_mod]
          congr 1
          omega
        · by_cases e : j = k
          · rw [e]; exact ⟨c0, c1⟩
          · exact f1 j (by omega)
end Z59
