-- ACTS, plainly
section Z26
def tof (f : Nat → Nat) (b : Nat) : Nat := if (f 0).testBit b = true then 0 else if (f 1).testBit b = true then 1 else if (f 2).testBit b = true then 2 else 3
def tI (t : Nat) : Int32 := if t < 3 then nI t else -1
def stt (D : ZD) (nb t x : Nat) : Nat := sto (fun y => mmk D t y nb) x
def anyw (f : Nat → Nat) : Nat := f 0 ||| f 1 ||| f 2
def npl (D : ZD) (rm f : Nat → Nat) (b t : Nat) : Int32 := if pcn (f t) < rm t then (if vmy D b t (f t) = true then 0 else -5) else -4
def wy (D : ZD) (rm f : Nat → Nat) (lo : Nat → Bool) (a : Nat) : Int32 :=
  if a < 60 then (if tof f (a % 20) < 3 then -2 else if lo (a % 20) = true then npl D rm f (a % 20) (a / 20) else -3)
  else if a < 80 then (if tof f (a % 20) < 3 then 0 else -2)
  else if tof f (a % 20) = 3 ∨ tof f (a % 20) = a / 20 - 4 then -2 else npl D rm f (a % 20) (a / 20 - 4)
def shu (D : ZD) (nb : Nat) (f : Nat → Nat) (b : Nat) : Nat → Nat := if tof f b < 3 then ups f (tof f b) (stt D nb (tof f b) (ndf (f (tof f b)) (2 ^ b))) else f
def opw (D : ZD) (nb : Nat) (f : Nat → Nat) (b t : Nat) : Nat → Nat := ups f t (stt D nb t (f t ||| 2 ^ b))
def tgt (a : Nat) : Nat := if a < 60 then a / 20 else a / 20 - 4
def aft (D : ZD) (nb : Nat) (f : Nat → Nat) (a : Nat) : Nat → Nat :=
  if 60 ≤ a ∧ a < 80 then shu D nb f (a % 20) else opw D nb (shu D nb f (a % 20)) (a % 20) (tgt a)
def gon (f g : Nat → Nat) (a : Nat) : Nat := ndf (if 60 ≤ a ∧ a < 80 then ndf (anyw f) (2 ^ (a % 20)) else anyw f ||| 2 ^ (a % 20)) (anyw g)
def dsj (f : Nat → Nat) : Prop := ∀ i, ((f 0).testBit i && (f 1).testBit i) = false ∧ ((f 0).testBit i && (f 2).testBit i) = false ∧ ((f 1).testBit i && (f 2).testBit i) = false
def okF (nb : Nat) (f : Nat → Nat) : Prop := (∀ t, t < 3 → f t < 2 ^ nb) ∧ dsj f
theorem okF.S {nb : Nat} {f : Nat → Nat} (h : okF nb f) (hn : nb ≤ 12) : okS f := by
  have h12 : 2 ^ nb ≤ 4096 := Nat.pow_le_pow_right (n := 2) (by decide) hn
  exact ⟨Nat.lt_of_lt_of_le (h.1 0 (by decide)) h12, Nat.lt_of_lt_of_le (h.1 1 (by decide)) h12, Nat.lt_of_lt_of_le (h.1 2 (by decide)) h12⟩
theorem tof_le (f : Nat → Nat) (b : Nat) : tof f b ≤ 3 := by
  unfold tof
  repeat (first | decide | split)
theorem tof_bit {f : Nat → Nat} {b : Nat} (h : tof f b < 3) : (f (tof f b)).testBit b = true := by
  unfold tof at *
  split
  · assumption
  · split
    · assumption
    · split
      · assumption
      · rename_i h0 h1 h2
        rw [if_neg h0, if_neg h1, if_neg h2] at h
        omega
theorem tof_3 {f : Nat → Nat} {b : Nat} (h : ¬ tof f b < 3) : (f 0).testBit b = false ∧ (f 1).testBit b = false ∧ (f 2).testBit b = false := by
  unfold tof at h
  cases h0 : (f 0).testBit b
  · cases h1 : (f 1).testBit b
    · cases h2 : (f 2).testBit b
      · exact ⟨rfl, rfl, rfl⟩
      · simp [h0, h1, h2] at h
    · simp [h0, h1] at h
  · simp [h0] at h
theorem tof_of {f : Nat → Nat} {b t : Nat} (hd : dsj f) (ht : t < 3) (h : (f t).testBit b = true) : tof f b = t := by
  obtain ⟨d1, d2, d3⟩ := hd b
  unfold tof
  rcases (show t = 0 ∨ t = 1 ∨ t = 2 by omega) with rfl | rfl | rfl
  · rw [if_pos h]
  · rw [h, Bool.and_true] at d1
    rw [d1, if_neg (by decide), if_pos h]
  · rw [h, Bool.and_true] at d2
    rw [h, Bool.and_true] at d3
    rw [d2, if_neg (by decide), d3, if_neg (by decide), if_pos h]
theorem stt_sub {D : ZD} {nb t x i : Nat} (h : (stt D nb t x).testBit i = true) : x.testBit i = true := sto_sub h
theorem stt_lt {D : ZD} {nb t x n : Nat} (h : x < n) : stt D nb t x < n := sto_lt h
theorem ups_s {α : Type} (f : Nat → α) (t : Nat) (m : α) : ups f t m t = m := by unfold ups; rw [if_pos rfl]
theorem ups_n {α : Type} (f : Nat → α) {t u : Nat} (m : α) (h : u ≠ t) : ups f t m u = f u := by unfold ups; rw [if_neg h]
theorem up_00 (f : Nat → Nat) (X : Nat) : ups f 0 X 0 = X := rfl
theorem up_01 (f : Nat → Nat) (X : Nat) : ups f 0 X 1 = f 1 := rfl
theorem up_02 (f : Nat → Nat) (X : Nat) : ups f 0 X 2 = f 2 := rfl
theorem up_10 (f : Nat → Nat) (X : Nat) : ups f 1 X 0 = f 0 := rfl
theorem up_11 (f : Nat → Nat) (X : Nat) : ups f 1 X 1 = X := rfl
theorem up_12 (f : Nat → Nat) (X : Nat) : ups f 1 X 2 = f 2 := rfl
theorem up_20 (f : Nat → Nat) (X : Nat) : ups f 2 X 0 = f 0 := rfl
theorem up_21 (f : Nat → Nat) (X : Nat) : ups f 2 X 1 = f 1 := rfl
theorem up_22 (f : Nat → Nat) (X : Nat) : ups f 2 X 2 = X := rfl
theorem p2_lt {b nb : Nat} (h : b < nb) : 2 ^ b < 2 ^ nb := Nat.pow_lt_pow_right (by decide) h
theorem or_lt {x y nb : Nat} (hx : x < 2 ^ nb) (hy : y < 2 ^ nb) : x ||| y < 2 ^ nb := Nat.or_lt_two_pow hx hy
theorem shu_ok {D : ZD} {nb b : Nat} {f : Nat → Nat} (h : okF nb f) : okF nb (shu D nb f b) := by
  unfold shu
  split
  case isFalse => exact h
  case isTrue ht =>
    generalize htt : tof f b = t at ht
    have hs := fun i => @stt_sub D nb t (ndf (f t) (2 ^ b)) i
    refine ⟨fun u hu => ?_, fun i => ?_⟩
    · by_cases e : u = t
      · subst e; rw [ups_s]; exact stt_lt (Nat.lt_of_le_of_lt (ndf_le _ _) (h.1 _ hu))
      · rw [ups_n _ _ e]; exact h.1 u hu
    · obtain ⟨d1, d2, d3⟩ := h.2 i
      have q : (stt D nb t (ndf (f t) (2 ^ b))).testBit i = true → (f t).testBit i = true := fun e => by
        have := hs i e
        rw [ndf_t] at this
        exact (Bool.and_eq_true_iff.mp this).1
      rcases (show t = 0 ∨ t = 1 ∨ t = 2 by omega) with rfl | rfl | rfl <;>
        (simp only [up_00, up_01, up_02, up_10, up_11, up_12, up_20, up_21, up_22]
         revert d1 d2 d3 q
         generalize (stt D nb _ _).testBit i = E
         generalize (f 0).testBit i = A
         generalize (f 1).testBit i = B
         generalize (f 2).testBit i = C
         revert A B C E
         decide)
theorem opw_ok {D : ZD} {nb b t : Nat} {f : Nat → Nat} (h : okF nb f) (hb : b < nb) (ht : t < 3) (hf : ¬ tof f b < 3) : okF nb (opw D nb f b t) := by
  unfold opw
  have hs := fun i => @stt_sub D nb t (f t ||| 2 ^ b) i
  obtain ⟨b0, b1, b2⟩ := tof_3 hf
  refine ⟨fun u hu => ?_, fun i => ?_⟩
  · by_cases e : u = t
    · subst e; rw [ups_s]; exact stt_lt (or_lt (h.1 _ hu) (p2_lt hb))
    · rw [ups_n _ _ e]; exact h.1 u hu
  · obtain ⟨d1, d2, d3⟩ := h.2 i
    have q : (stt D nb t (f t ||| 2 ^ b)).testBit i = true → (f t).testBit i = true ∨ ((f 0).testBit i = false ∧ (f 1).testBit i = false ∧ (f 2).testBit i = false) := fun e => by
      have := hs i e
      rw [Nat.testBit_or, tb2, Bool.or_eq_true] at this
      rcases this with w | w
      · exact Or.inl w
      · have w := of_decide_eq_true w
        subst w
        exact Or.inr ⟨b0, b1, b2⟩
    rcases (show t = 0 ∨ t = 1 ∨ t = 2 by omega) with rfl | rfl | rfl <;>
      (simp only [up_00, up_01, up_02, up_10, up_11, up_12, up_20, up_21, up_22]
       revert d1 d2 d3 q
       generalize (stt D nb _ _).testBit i = E
       generalize (f 0).testBit i = A
       generalize (f 1).testBit i = B
       generalize (f 2).testBit i = C
       revert A B C E
       decide)
theorem shu_none {D : ZD} {nb b : Nat} {f : Nat → Nat} (h : okF nb f) : ¬ tof (shu D nb f b) b < 3 := by
  intro hlt
  have hbit := tof_bit hlt
  unfold shu at hlt hbit
  split at hlt
  case isFalse hn =>
    rw [if_neg hn] at hbit
    exact hn hlt
  case isTrue ht =>
    rw [if_pos ht] at hbit
    generalize hu : tof (ups f (tof f b) (stt D nb (tof f b) (ndf (f (tof f b)) (2 ^ b)))) b = u at hlt hbit
    by_cases e : u = tof f b
    · rw [e, ups_s] at hbit
      have := stt_sub hbit
      rw [ndf_t, tb2] at this
      simp at this
    · rw [ups_n _ _ e] at hbit
      exact e (tof_of h.2 hlt hbit).symm
theorem tgt_lt {a : Nat} (ha : a < 140) (h : ¬ (60 ≤ a ∧ a < 80)) : tgt a < 3 := by
  unfold tgt
  split <;> omega
theorem aft_ok {D : ZD} {nb a : Nat} {f : Nat → Nat} (h : okF nb f) (ha : a < 140) (hb : a % 20 < nb) : okF nb (aft D nb f a) := by
  unfold aft
  split
  · exact shu_ok h
  · exact opw_ok (shu_ok h) hb (tgt_lt ha (by assumption)) (shu_none h)
-- what an act shuts: table by table, or all in all
theorem gon_open {D : ZD} {nb b t : Nat} {f : Nat → Nat} (hd : dsj f) (ht : t < 3) (hf : ¬ tof f b < 3) : ndf (f t ||| 2 ^ b) (opw D nb f b t t) = ndf (anyw f ||| 2 ^ b) (anyw (opw D nb f b t)) := by
  obtain ⟨b0, b1, b2⟩ := tof_3 hf
  apply Nat.eq_of_testBit_eq
  intro i
  obtain ⟨d1, d2, d3⟩ := hd i
  have q : (2 ^ b).testBit i = true → (f 0).testBit i = false ∧ (f 1).testBit i = false ∧ (f 2).testBit i = false := fun w => by
    rw [tb2] at w
    have w := of_decide_eq_true w
    subst w
    exact ⟨b0, b1, b2⟩
  unfold opw anyw
  simp only [ndf_t, Nat.testBit_or]
  rcases (show t = 0 ∨ t = 1 ∨ t = 2 by omega) with rfl | rfl | rfl <;>
    (simp only [up_00, up_01, up_02, up_10, up_11, up_12, up_20, up_21, up_22]
     revert d1 d2 d3 q
     generalize (stt D nb _ _).testBit i = E
     generalize (2 ^ b).testBit i = F
     generalize (f 0).testBit i = A
     generalize (f 1).testBit i = B
     generalize (f 2).testBit i = C
     revert A B C E F
     decide)
theorem gon_shut {D : ZD} {nb b : Nat} {f : Nat → Nat} (hd : dsj f) (hf : tof f b < 3) : ndf (ndf (f (tof f b)) (2 ^ b)) (shu D nb f b (tof f b)) = ndf (ndf (anyw f) (2 ^ b)) (anyw (shu D nb f b)) := by
  have hb := tof_bit hf
  unfold shu
  rw [if_pos hf]
  revert hb hf
  generalize tof f b = t
  intro ht hb
  apply Nat.eq_of_testBit_eq
  intro i
  obtain ⟨d1, d2, d3⟩ := hd i
  have q : (2 ^ b).testBit i = true → (f t).testBit i = true := fun w => by
    rw [tb2] at w
    have w := of_decide_eq_true w
    subst w
    exact hb
  unfold anyw
  simp only [ndf_t, Nat.testBit_or]
  rcases (show t = 0 ∨ t = 1 ∨ t = 2 by omega) with rfl | rfl | rfl <;>
    (simp only [up_00, up_01, up_02, up_10, up_11, up_12, up_20, up_21, up_22]
     revert d1 d2 d3 q
     generalize (stt D nb _ _).testBit i = E
     generalize (2 ^ b).testBit i = F
     generalize (f 0).testBit i = A
     generalize (f 1).testBit i = B
     generalize (f 2).testBit i = C
     revert A B C E F
     decide)
theorem gon_hand {D : ZD} {nb b t : Nat} {f : Nat → Nat} (hd : dsj f) (ht : t < 3) (hf : tof f b < 3) (hne : tof f b ≠ t) :
    ndf (ndf (f (tof f b)) (2 ^ b)) (shu D nb f b (tof f b)) ||| ndf (shu D nb f b t ||| 2 ^ b) (opw D nb (shu D nb f b) b t t) = ndf (anyw f ||| 2 ^ b) (anyw (opw D nb (shu D nb f b) b t)) := by
  have hb := tof_bit hf
  unfold opw shu
  simp only [if_pos hf]
  revert hb hf hne
  generalize tof f b = w
  intro hw hne hb
  have hx : ∀ X : Nat, ups f w X t = f t := fun X => ups_n _ _ (Ne.symm hne)
  have hs1 := fun i => @stt_sub D nb w (ndf (f w) (2 ^ b)) i
  apply Nat.eq_of_testBit_eq
  intro i
  obtain ⟨d1, d2, d3⟩ := hd i
  have q : (2 ^ b).testBit i = true → (f w).testBit i = true := fun h => by
    rw [tb2] at h
    have h := of_decide_eq_true h
    subst h
    exact hb
  have q1 : (stt D nb w (ndf (f w) (2 ^ b))).testBit i = true → (f w).testBit i = true ∧ (2 ^ b).testBit i = false := fun h => by
    have := hs1 i h
    rw [ndf_t] at this
    have := Bool.and_eq_true_iff.mp this
    exact ⟨this.1, by simpa using this.2⟩
  have q2 : (stt D nb t (f t ||| 2 ^ b)).testBit i = true → (f t).testBit i = true ∨ (2 ^ b).testBit i = true := fun h => by
    have := stt_sub h
    rw [Nat.testBit_or, Bool.or_eq_true] at this
    exact this
  rw [hx]
  revert q1 q2
  generalize stt D nb w (ndf (f w) (2 ^ b)) = X
  generalize stt D nb t (f t ||| 2 ^ b) = Y
  intro q1 q2
  unfold anyw
  simp only [ndf_t, Nat.testBit_or]
  rcases (show (w = 0 ∧ t = 1) ∨ (w = 0 ∧ t = 2) ∨ (w = 1 ∧ t = 0) ∨ (w = 1 ∧ t = 2) ∨ (w = 2 ∧ t = 0) ∨ (w = 2 ∧ t = 1) by omega) with ⟨rfl, rfl⟩ | ⟨rfl, rfl⟩ | ⟨rfl, rfl⟩ | ⟨rfl, rfl⟩ | ⟨rfl, rfl⟩ | ⟨rfl, rfl⟩ <;>
    (simp only [up_00, up_01, up_02, up_10, up_11, up_12, up_20, up_21, up_22]
     revert d1 d2 d3 q q1 q2
     generalize X.testBit i = E
     generalize Y.testBit i = G
     generalize (2 ^ b).testBit i = F
     generalize (f 0).testBit i = A
     generalize (f 1).testBit i = B
     generalize (f 2).testBit i = C
     cases E <;> cases G <;> revert A B C F <;> decide)
end Z26
