-- one table's acts
section Z82
def oc (t x : Nat) : Nat := en (ups (fun _ => 0) t x)
theorem oc_S {t x : Nat} (hx : x < 4096) : okS (ups (fun _ => 0) t x) := okS_up okS_0 t hx
theorem oc_lt {t x : Nat} (hx : x < 4096) : oc t x < 2 ^ 36 := en_lt (oc_S hx)
theorem oc_d {t x u : Nat} (hx : x < 4096) (hu : u < 3) : dcd (oc t x) u = if u = t then x else 0 := dcd_en (oc_S hx) hu
theorem oc_any {t x : Nat} (ht : t < 3) (hx : x < 4096) : anyw (dcd (oc t x)) = x := by
  unfold anyw
  rw [oc_d hx (by decide), oc_d hx (by decide), oc_d hx (by decide)]
  rcases (show t = 0 ∨ t = 1 ∨ t = 2 by omega) with rfl | rfl | rfl
  · rw [if_pos rfl, if_neg (by decide), if_neg (by decide), Nat.or_zero, Nat.or_zero]
  · rw [if_neg (by decide), if_pos rfl, if_neg (by decide), Nat.zero_or, Nat.or_zero]
  · rw [if_neg (by decide), if_neg (by decide), if_pos rfl, Nat.zero_or, Nat.zero_or]
theorem oc_at {t x : Nat} (ht : t < 3) (hx : x < 4096) : dcd (oc t x) t = x := by rw [oc_d hx ht, if_pos rfl]
theorem oc_inj {t x y : Nat} (ht : t < 3) (hx : x < 4096) (hy : y < 4096) (h : oc t x = oc t y) : x = y := by
  rw [← oc_at ht hx, h, oc_at ht hy]
theorem oc_0 (t : Nat) : oc t 0 = 0 := by
  unfold oc
  rw [← en_0]
  apply en_eq
  intro u _
  rw [ups_i]
  split <;> rfl
theorem oc_F {nb t x : Nat} (ht : t < 3) (hnb : nb ≤ 12) (hx : x < 2 ^ nb) : okF nb (dcd (oc t x)) := by
  have h12 := pw_12 hnb
  have hp : 0 < 2 ^ nb := Nat.pow_pos (by decide)
  refine ⟨fun u hu => ?_, fun i => ?_⟩
  · rw [oc_d (by omega) hu]; split <;> assumption
  · rw [oc_d (by omega) (by decide), oc_d (by omega) (by decide), oc_d (by omega) (by decide)]
    rcases (show t = 0 ∨ t = 1 ∨ t = 2 by omega) with rfl | rfl | rfl <;> simp
def tbo (a : ZA) (t x b : Nat) : Bool := !x.testBit b && (loA a b && (decide (pcn x < a.2.1.2.2.2.2.2 t) && vmy (aD a) b t x))
def nxk (a : ZA) (t x k : Nat) : Bool := decide (k % 12 < a.2.1.1) && (if k < 12 then tbo a t x k else x.testBit (k - 12))
def tgx (a : ZA) (t x k : Nat) : Nat := if k < 12 then stt (aD a) a.2.1.1 t (x ||| 2 ^ k) else stt (aD a) a.2.1.1 t (ndf x (2 ^ (k - 12)))
def acs (t k : Nat) : Nat := if k < 12 then 20 * t + k else 60 + (k - 12)
def slt (a : ZA) (t x : Nat) : Nat → List (Nat × Nat)
  | 0 => []
  | k + 1 => if nxk a t x k = true then slt a t x k ++ [(acs t k, oc t (tgx a t x k))] else slt a t x k
theorem slt_s (a : ZA) (t x k : Nat) : slt a t x (k + 1) = if nxk a t x k = true then slt a t x k ++ [(acs t k, oc t (tgx a t x k))] else slt a t x k := rfl
theorem tgx_lt {a : ZA} {t x k : Nat} (hx : x < 2 ^ a.2.1.1) (hk : k < 24) (h : nxk a t x k = true) : tgx a t x k < 2 ^ a.2.1.1 := by
  unfold nxk at h
  rw [Bool.and_eq_true, decide_eq_true_eq] at h
  unfold tgx
  by_cases q : k < 12
  · rw [if_pos q]
    exact stt_lt (or_lt hx (p2_lt (by omega)))
  · rw [if_neg q]
    exact stt_lt (Nat.lt_of_le_of_lt (ndf_le _ _) hx)
section
variable {a : ZA} {t x b : Nat}
theorem oc_tof (ht : t < 3) (hx : x < 4096) : tof (dcd (oc t x)) b < 3 ↔ x.testBit b = true := by
  rw [← any_bit, oc_any ht hx]
theorem sok_o (ht : t < 3) (hx : x < 4096) (hb : b < 12) : sok a (oc t x) (20 * t + b) = (decide (b < a.2.1.1) && tbo a t x b) := by
  unfold sok
  rw [show (20 * t + b) % 20 = b by omega]
  congr 1
  unfold wy tbo npl
  rw [if_pos (by omega), show (20 * t + b) % 20 = b by omega, show (20 * t + b) / 20 = t by omega, oc_at ht hx]
  by_cases q : x.testBit b = true
  · rw [if_pos ((oc_tof ht hx).mpr q), q]; simp
  · have q' : x.testBit b = false := by cases w : x.testBit b; rfl; exact absurd w q
    rw [if_neg (fun w => q ((oc_tof ht hx).mp w)), q']
    cases h1 : loA a b
    · simp
    · by_cases h2 : pcn x < a.2.1.2.2.2.2.2 t
      · cases h3 : vmy (aD a) b t x
        · simp [h2]
        · simp [h2]
      · simp [h2]
theorem sok_c (ht : t < 3) (hx : x < 4096) (hb : b < 12) : sok a (oc t x) (60 + b) = (decide (b < a.2.1.1) && x.testBit b) := by
  unfold sok
  rw [show (60 + b) % 20 = b by omega]
  congr 1
  unfold wy
  rw [if_neg (by omega), if_pos (by omega), show (60 + b) % 20 = b by omega]
  by_cases q : x.testBit b = true
  · rw [if_pos ((oc_tof ht hx).mpr q), q]; simp
  · have q' : x.testBit b = false := by cases w : x.testBit b; rfl; exact absurd w q
    rw [if_neg (fun w => q ((oc_tof ht hx).mp w)), q']; simp
theorem aft_o (ht : t < 3) (hx : x < 4096) (hb : b < 12) (h : x.testBit b = false) : en (aft (aD a) a.2.1.1 (dcd (oc t x)) (20 * t + b)) = oc t (stt (aD a) a.2.1.1 t (x ||| 2 ^ b)) := by
  have hn : ¬ tof (dcd (oc t x)) b < 3 := fun w => by rw [(oc_tof ht hx).mp w] at h; cases h
  unfold aft shu opw tgt
  rw [if_neg (by omega), show (20 * t + b) % 20 = b by omega, if_neg hn, if_pos (by omega), show (20 * t + b) / 20 = t by omega, oc_at ht hx]
  apply en_eq
  intro u hu
  rw [ups_i, ups_i]
  by_cases e : u = t
  · rw [if_pos e, if_pos e]
  · rw [if_neg e, if_neg e, oc_d hx hu, if_neg e]
theorem aft_c (ht : t < 3) (hx : x < 4096) (hb : b < 12) (h : x.testBit b = true) : en (aft (aD a) a.2.1.1 (dcd (oc t x)) (60 + b)) = oc t (stt (aD a) a.2.1.1 t (ndf x (2 ^ b))) := by
  have hn := (oc_tof (b := b) ht hx).mpr h
  have e : tof (dcd (oc t x)) b = t := by
    have := tof_bit hn
    rw [oc_d hx hn] at this
    by_cases q : tof (dcd (oc t x)) b = t
    · exact q
    · rw [if_neg q, Nat.zero_testBit] at this; cases this
  rw [aft_60 (by omega)]
  unfold shu
  rw [if_pos hn, e, oc_at ht hx]
  apply en_eq
  intro u hu
  rw [ups_i, ups_i]
  by_cases e : u = t
  · rw [if_pos e, if_pos e]
  · rw [if_neg e, if_neg e, oc_d hx hu, if_neg e]
theorem slt_lo (ht : t < 3) (hnb : a.2.1.1 ≤ 12) (hx : x < 2 ^ a.2.1.1) : ∀ k, k ≤ 12 → slt a t x k = skd a (oc t x) t k := by
  have h12 := pw_12 hnb
  have hF := oc_F ht hnb hx
  intro k
  induction k with
  | zero => intro _; rfl
  | succ k ih =>
    intro hk
    have e : nxk a t x k = sok a (oc t x) (20 * t + k) := by
      rw [sok_o ht (by omega) (by omega)]
      unfold nxk
      rw [show k % 12 = k by omega, if_pos (by omega)]
    rw [slt_s, skd_s, ih (by omega), posA_bit hF (by omega) (by omega), e]
    by_cases q : sok a (oc t x) (20 * t + k) = true
    · rw [if_pos q, if_pos q]
      have q2 := q
      rw [sok_o ht (by omega) (by omega)] at q2
      have q3 : x.testBit k = false := by
        unfold tbo at q2
        cases w : x.testBit k
        · rfl
        · rw [w] at q2; simp at q2
      rw [aft_o ht (by omega) (by omega) q3]
      unfold acs tgx
      rw [if_pos (by omega), if_pos (by omega)]
    · rw [if_neg q, if_neg q]
theorem slt_hi (ht : t < 3) (hnb : a.2.1.1 ≤ 12) (hx : x < 2 ^ a.2.1.1) : ∀ k, k ≤ 12 → slt a t x (12 + k) = skd a (oc t x) t 12 ++ skd a (oc t x) 3 k := by
  have h12 := pw_12 hnb
  have hF := oc_F ht hnb hx
  intro k
  induction k with
  | zero => intro _; rw [slt_lo ht hnb hx 12 (by omega)]; exact (List.append_nil _).symm
  | succ k ih =>
    intro hk
    have e : nxk a t x (12 + k) = sok a (oc t x) (60 + k) := by
      rw [sok_c ht (by omega) (by omega)]
      unfold nxk
      rw [show (12 + k) % 12 = k by omega, if_neg (by omega), show 12 + k - 12 = k by omega]
    rw [show 12 + (k + 1) = (12 + k) + 1 by omega, slt_s, skd_s a (oc t x) 3 k, ih (by omega), posA_bit (kd := 3) hF (by omega) (by omega), e, show 20 * 3 + k = 60 + k by omega]
    by_cases q : sok a (oc t x) (60 + k) = true
    · rw [if_pos q, if_pos q]
      have q2 := q
      rw [sok_c ht (by omega) (by omega), Bool.and_eq_true] at q2
      rw [aft_c ht (by omega) (by omega) q2.2, List.append_assoc]
      unfold acs tgx
      rw [if_neg (by omega), if_neg (by omega), show 12 + k - 12 = k by omega]
    · rw [if_neg q, if_neg q]
theorem slt_all (ht : t < 3) (hnb : a.2.1.1 ≤ 12) (hx : x < 2 ^ a.2.1.1) : slt a t x 24 = sucA a (wtb t) (oc t x) := by
  rw [slt_hi ht hnb hx 12 (by omega)]
  unfold sucA
  rcases (show t = 0 ∨ t = 1 ∨ t = 2 by omega) with rfl | rfl | rfl
  · simp [sks, wtb]
  · simp [sks, wtb]
  · simp [sks, wtb]
theorem slt_mem (hnb : a.2.1.1 ≤ 12) (hx : x < 2 ^ a.2.1.1) : ∀ k, k ≤ 24 → ∀ p, p ∈ slt a t x k → ∃ y, y < 2 ^ a.2.1.1 ∧ p.2 = oc t y := by
  intro k
  induction k with
  | zero => intro _ p hp; exact absurd hp (by simp [slt])
  | succ k ih =>
    intro hk p hp
    rw [slt_s] at hp
    by_cases q : nxk a t x k = true
    · rw [if_pos q] at hp
      rcases List.mem_append.mp hp with h | h
      · exact ih (by omega) p h
      · rw [List.mem_singleton.mp h]
        exact ⟨_, tgx_lt hx (by omega) q, rfl⟩
    · rw [if_neg q] at hp
      exact ih (by omega) p hp
def onO (a : ZA) (t c : Nat) : Prop := ∃ x, x < 2 ^ a.2.1.1 ∧ c = oc t x
theorem onO_suc (ht : t < 3) (hnb : a.2.1.1 ≤ 12) : ∀ y b z, onO a t y → (b, z) ∈ sucA a (wtb t) y → onO a t z := by
  rintro _ b z ⟨x, hx, rfl⟩ hm
  rw [← slt_all ht hnb hx] at hm
  exact slt_mem hnb hx 24 (by omega) _ hm
theorem onO_0 : onO a t 0 := ⟨0, Nat.pow_pos (by decide), (oc_0 t).symm⟩
theorem one_few {Q : ZQ} (ht : t < 3) (hnb : a.2.1.1 ≤ 12) (hQ : qds Q) (h : ∀ k, k < Q.1 → onO a t (Q.2.1 k)) : Q.1 ≤ 2 ^ a.2.1.1 := by
  have h12 := pw_12 hnb
  refine pinj (2 ^ a.2.1.1) Q.1 (fun i => dcd (Q.2.1 i) t) (fun i hi => ?_) (fun i j hi hj e => ?_)
  · obtain ⟨x, hx, e⟩ := h i hi
    rw [e, oc_at ht (by omega)]
    exact hx
  · obtain ⟨x, hx, e1⟩ := h i hi
    obtain ⟨y, hy, e2⟩ := h j hj
    rw [e1, e2, oc_at ht (by omega), oc_at ht (by omega)] at e
    exact hQ i j hi hj (by rw [e1, e2, e])
theorem one_nb (ht : t < 3) (hnb : a.2.1.1 ≤ 12) : ¬ big (fun c => onO a t c) := by
  have h12 := pw_12 hnb
  rintro ⟨g, g1, g2⟩
  have := pinj (2 ^ a.2.1.1) 5001 (fun i => dcd (g i) t) (fun i hi => ?_) (fun i j hi hj e => ?_)
  · omega
  · obtain ⟨x, hx, e⟩ := g1 i hi
    rw [e, oc_at ht (by omega)]
    exact hx
  · obtain ⟨x, hx, e1⟩ := g1 i hi
    obtain ⟨y, hy, e2⟩ := g1 j hj
    rw [e1, e2, oc_at ht (by omega), oc_at ht (by omega)] at e
    exact g2 i j hi hj (by rw [e1, e2, e])
/-- on one table there is always a place -/
theorem one_put {Q : ZQ} {c d : Nat} {f b : Int32} (ht : t < 3) (hnb : a.2.1.1 ≤ 12) (hQ : qds Q) (h : ∀ k, k < Q.1 → onO a t (Q.2.1 k)) : qput Q c f b d = if qat Q c < Q.1 then some (qat Q c, Q) else some (Q.1, qadd Q c f b d) := by
  have h12 := pw_12 hnb
  have := one_few ht hnb hQ h
  unfold qput
  rw [if_pos (show Q.1 < 5000 by omega)]
end
end Z82
