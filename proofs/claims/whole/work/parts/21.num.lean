-- NUMBERS: sets of books as naturals below 4096, states of three tables
section Z21
theorem s31 : ∀ n, n < 32 → ((nI n &&& 31).toBitVec.smod 32).toNat = n := by decide +kernel
theorem s31u : ∀ n, n < 32 → (((nI n).toUInt32 &&& Int32.toUInt32 31).toBitVec % 32).toNat = n := by decide +kernel
theorem srI_n {x k : Nat} (hx : x < 2 ^ 31) (hk : k < 32) : srI (nI x) (nI k) = nI (x >>> k) := by
  unfold srI
  rw [pk_shrN hx _ k (s31 k hk), Nat.shiftRight_eq_div_pow]
theorem usrI_n {x k : Nat} (hx : x < 2 ^ 32) (hk : k < 32) : usrI (nI x) (nI k) = nI (x >>> k) := by
  unfold usrI
  rw [pk_ushrN hx _ k (s31u k hk), Nat.shiftRight_eq_div_pow]
theorem shI_n {k : Nat} (hk : k < 31) : shI 1 (nI k) = nI (2 ^ k) := by
  unfold shI
  have h := pk_shlN (n := 1) (nI k &&& 31) k (s31 k (by omega)) (by
    rw [Nat.one_mul]; exact Nat.pow_lt_pow_right (by omega) (by omega))
  rw [Nat.one_mul] at h
  exact h
/-- what a has and b hasn't -/
def ndf (a b : Nat) : Nat := a &&& (a ^^^ b)
theorem ndf_t (a b i : Nat) : (ndf a b).testBit i = (a.testBit i && !b.testBit i) := by
  unfold ndf
  rw [Nat.testBit_and, Nat.testBit_xor]
  cases a.testBit i <;> cases b.testBit i <;> rfl
theorem ndf_le (a b : Nat) : ndf a b ≤ a := Nat.and_le_left
theorem nI_andn (a b : Nat) : nI a &&& (nI b ^^^ (-1)) = nI (ndf a b) := by
  apply Int32.toBitVec.inj
  simp only [nI, Int32.toBitVec_and, Int32.toBitVec_xor, Int32.toBitVec_ofNat', ndf, BitVec.ofNat_and, BitVec.ofNat_xor]
  have e : (-1 : Int32).toBitVec = BitVec.allOnes 32 := by decide
  rw [e]
  apply BitVec.eq_of_getLsbD_eq
  intro i hi
  simp only [BitVec.getLsbD_and, BitVec.getLsbD_xor, BitVec.getLsbD_allOnes, hi, decide_true]
  cases (BitVec.ofNat 32 a).getLsbD i <;> cases (BitVec.ofNat 32 b).getLsbD i <;> rfl
theorem and1_n (x : Nat) : nI x &&& 1 = nI (x % 2) := by
  have e : (1 : Int32) = nI 1 := rfl
  rw [e, nI_and, Nat.and_one_is_mod]
theorem tb_mod (x k : Nat) : (x >>> k) % 2 = (x.testBit k).toNat := by
  rw [Nat.testBit_eq_decide_div_mod_eq, Nat.shiftRight_eq_div_pow]
  rcases Nat.mod_two_eq_zero_or_one (x / 2 ^ k) with h | h <;> simp [h]
theorem bit_n {x k : Nat} (hx : x < 2 ^ 31) (hk : k < 32) : srI (nI x) (nI k) &&& 1 = nI (x.testBit k).toNat := by
  rw [srI_n hx hk, and1_n, tb_mod]
theorem bit0 {x k : Nat} (hx : x < 2 ^ 31) (hk : k < 32) : (srI (nI x) (nI k) &&& 1 = 0) ↔ x.testBit k = false := by
  rw [bit_n hx hk]
  cases x.testBit k
  · exact ⟨fun _ => rfl, fun _ => rfl⟩
  · exact ⟨fun h => absurd h (by decide), fun h => by cases h⟩
theorem has_n {x k : Nat} (hx : x < 2 ^ 31) (hk : k < 32) : f_M_has (nI x) (nI k) = x.testBit k := by
  unfold f_M_has
  rw [bit_n hx hk]
  cases x.testBit k <;> rfl
theorem flag_t (b : Bool) : f_M_flag b = nI b.toNat := by cases b <;> rfl
theorem and1_01 (x : Int32) : x &&& 1 = 0 ∨ x &&& 1 = 1 := by
  have h := pk_and x (m := 1) 1 (by decide)
  rw [h]
  rcases Nat.mod_two_eq_zero_or_one x.toBitVec.toNat with e | e
  · left; rw [show (2 : Nat) ^ 1 = 2 from rfl, e]; rfl
  · right; rw [show (2 : Nat) ^ 1 = 2 from rfl, e]; rfl
theorem flag_has (a b : Int32) : f_M_flag (f_M_has a b) = srI a b &&& 1 := by
  unfold f_M_has
  rcases and1_01 (srI a b) with h | h <;> rw [h] <;> rfl
-- in(v, low, high)
theorem in_eq (x y z : Int64) : f_M_in x y z = decide (y ≤ x ∧ x ≤ z) := by
  unfold f_M_in lg_cmp
  by_cases h1 : x > y
  · have h1' : y ≤ x := Int64.le_of_lt h1
    simp only [h1, if_true, h1', true_and]
    rw [if_neg (by decide)]
    by_cases h2 : x > z
    · have h3 : ¬ x ≤ z := Int64.not_le.mpr h2
      simp [h2, h3]
    · have h3 : x ≤ z := Int64.not_lt.mp h2
      simp only [h2, if_false, h3, decide_true]
      by_cases h4 : x = z
      · simp [h4]
      · simp [h4]
  · by_cases h2 : x = y
    · subst h2
      simp only [h1, if_false, if_true, Int64.le_refl, true_and]
      rw [if_neg (show ¬ (0 : Int32) < 0 from by decide)]
      by_cases h5 : x > z
      · have h3 : ¬ x ≤ z := Int64.not_le.mpr h5
        simp [h5, h3]
      · have h3 : x ≤ z := Int64.not_lt.mp h5
        simp only [h5, if_false, h3, decide_true]
        by_cases h4 : x = z
        · simp [h4]
        · simp [h4]
    · have h1' : ¬ y ≤ x := fun h => by
        rcases Int64.le_iff_lt_or_eq.mp h with h | h
        · exact h1 h
        · exact h2 h.symm
      simp [h1, h2, h1']
theorem l_le {a b : Int32} : a.toInt64 ≤ b.toInt64 ↔ a ≤ b := by
  rw [Int64.le_iff_toInt_le, Int32.le_iff_toInt_le, Int32.toInt_toInt64, Int32.toInt_toInt64]
theorem in_i (a b c : Int32) : f_M_in a.toInt64 b.toInt64 c.toInt64 = decide (b ≤ a ∧ a ≤ c) := by
  rw [in_eq]
  simp only [l_le]
/-- an int is one of 0 .. n - 1, or it is not -/
theorem nI_cases (a : Int32) (n : Nat) (hn : n < 2 ^ 31) : (∃ k, k < n ∧ a = nI k) ∨ (a < 0 ∨ nI n ≤ a) := by
  rcases pk_ix a hn with h | h | h
  · exact Or.inr (Or.inl h)
  · exact Or.inr (Or.inr h)
  · exact Or.inl h
theorem in_upto (a : Int32) {n : Nat} (hn : n < 2 ^ 31) : f_M_in a.toInt64 (0 : Int64) (nI n - 1).toInt64 = true ↔ ∃ k, k < n ∧ a = nI k := by
  have e0 : (0 : Int64) = (0 : Int32).toInt64 := by decide
  rw [e0, in_i, decide_eq_true_eq]
  constructor
  · rintro ⟨h1, h2⟩
    rcases pk_ix a hn with h | h | h
    · exact absurd h (Int32.not_lt.mpr h1)
    · exfalso
      rw [Int32.le_iff_toInt_le] at h h2
      rw [nI_toInt hn] at h
      rcases Nat.eq_zero_or_pos n with rfl | hp
      · rw [show (nI 0 - 1).toInt = -1 from by decide] at h2
        omega
      · have e : n = (n - 1) + 1 := by omega
        rw [e, nI_pred, nI_toInt (by omega)] at h2
        omega
    · exact h
  · rintro ⟨k, hk, rfl⟩
    refine ⟨nI_pos' (by omega), ?_⟩
    have e : n = (n - 1) + 1 := by omega
    rw [e, nI_pred]
    exact nI_le (by omega) (by omega)
theorem in_lit (a : Int32) {n : Nat} (hn : n < 2 ^ 30) {w : Int64} (hw : w = (nI n).toInt64) : f_M_in a.toInt64 (0 : Int64) w = true ↔ ∃ k, k < n + 1 ∧ a = nI k := by
  rw [hw, ← nI_pred]
  exact in_upto a (by omega)
theorem bool_f {b : Bool} {p : Prop} (h : b = true ↔ p) (hp : ¬ p) : b = false := by
  cases b
  · rfl
  · exact absurd (h.mp rfl) hp
theorem isTab (a : Int32) : f_M_isTable a = true ↔ ∃ k, k < 3 ∧ a = nI k := in_lit a (by decide) (by decide)
theorem xisTab (a : Int32) : f_X_isTable a = true ↔ ∃ k, k < 3 ∧ a = nI k := by
  unfold f_X_isTable
  rcases nI_cases a 3 (by decide) with ⟨k, hk, rfl⟩ | h | h
  · rw [if_neg (nI_pos (by omega)), if_neg (show ¬ (3 : Int32) ≤ nI k from nI_ge hk (by decide))]
    exact ⟨fun _ => ⟨k, hk, rfl⟩, fun _ => rfl⟩
  · rw [if_pos h]
    exact ⟨fun e => (by cases e), fun ⟨k, hk, e⟩ => by rw [e] at h; exact absurd h (nI_pos (by omega))⟩
  · have h0 : ¬ a < 0 := fun q => absurd (Int32.lt_of_le_of_lt h q) (by decide)
    rw [if_neg h0, if_pos (show (3 : Int32) ≤ a from h)]
    exact ⟨fun e => (by cases e), fun ⟨k, hk, e⟩ => by rw [e] at h; exact absurd h (nI_ge hk (by decide))⟩
theorem tab_eq (a : Int32) : f_X_isTable a = f_M_isTable a := by
  rw [Bool.eq_iff_iff, isTab, xisTab]
-- how many bits, the least bit
def pcn (x : Nat) : Nat := (x.testBit 0).toNat + (x.testBit 1).toNat + (x.testBit 2).toNat + (x.testBit 3).toNat + (x.testBit 4).toNat + (x.testBit 5).toNat + (x.testBit 6).toNat + (x.testBit 7).toNat + (x.testBit 8).toNat + (x.testBit 9).toNat + (x.testBit 10).toNat + (x.testBit 11).toNat
theorem by64 {P : Nat → Prop} (h : ∀ a, a < 64 → ∀ b, b < 64 → P (64 * a + b)) : ∀ x, x < 4096 → P x := by
  intro x hx
  have e := h (x / 64) (by omega) (x % 64) (by omega)
  rwa [Nat.div_add_mod] at e
set_option maxRecDepth 100000 in
theorem bc_n : ∀ x, x < 4096 → f_J_bitCount (nI x) = nI (pcn x) := by64 (by decide +kernel)
theorem pcn_le (x : Nat) : pcn x ≤ 12 := by
  unfold pcn
  have h : ∀ b : Bool, b.toNat ≤ 1 := by decide
  have := h (x.testBit 0); have := h (x.testBit 1); have := h (x.testBit 2); have := h (x.testBit 3); have := h (x.testBit 4); have := h (x.testBit 5)
  have := h (x.testBit 6); have := h (x.testBit 7); have := h (x.testBit 8); have := h (x.testBit 9); have := h (x.testBit 10); have := h (x.testBit 11)
  omega
/-- the least bit; 12: none -/
def low (x : Nat) : Nat := if x.testBit 0 then 0 else if x.testBit 1 then 1 else if x.testBit 2 then 2 else if x.testBit 3 then 3 else if x.testBit 4 then 4 else if x.testBit 5 then 5 else if x.testBit 6 then 6 else if x.testBit 7 then 7 else if x.testBit 8 then 8 else if x.testBit 9 then 9 else if x.testBit 10 then 10 else if x.testBit 11 then 11 else 12
set_option maxRecDepth 100000 in
theorem ntz_n : ∀ x, x < 4096 → x ≠ 0 → f_J_numberOfTrailingZeros (nI x) = nI (low x) := by64 (by decide +kernel)
-- a state: what is open on tables 0, 1, 2
def en (f : Nat → Nat) : Nat := f 0 ||| (f 1 <<< 12) ||| (f 2 <<< 24)
def okS (f : Nat → Nat) : Prop := f 0 < 4096 ∧ f 1 < 4096 ∧ f 2 < 4096
theorem tb_big {x n i : Nat} (h : x < 2 ^ n) (hi : n ≤ i) : x.testBit i = false := Nat.testBit_lt_two_pow (Nat.lt_of_lt_of_le h (Nat.pow_le_pow_right (by omega) hi))
theorem en_t {f : Nat → Nat} (h : okS f) (i : Nat) : (en f).testBit i = if i < 12 then (f 0).testBit i else if i < 24 then (f 1).testBit (i - 12) else (f 2).testBit (i - 24) := by
  unfold en
  obtain ⟨h0, h1, h2⟩ := h
  simp only [Nat.testBit_or, Nat.testBit_shiftLeft]
  by_cases a : i < 12
  · have a1 : ¬ 12 ≤ i := by omega
    have a2 : ¬ 24 ≤ i := by omega
    simp [a, a1, a2]
  · rw [tb_big (n := 12) h0 (by omega)]
    by_cases b : i < 24
    · have a1 : 12 ≤ i := by omega
      have a2 : ¬ 24 ≤ i := by omega
      simp [a, b, a1, a2]
    · rw [tb_big (n := 12) h1 (by omega)]
      have a2 : 24 ≤ i := by omega
      simp [a, b, a2]
theorem en_lt {f : Nat → Nat} (h : okS f) : en f < 2 ^ 36 := by
  unfold en
  obtain ⟨h0, h1, h2⟩ := h
  have a : f 0 < 2 ^ 36 := by omega
  have b : f 1 <<< 12 < 2 ^ 36 := by rw [Nat.shiftLeft_eq]; omega
  have c : f 2 <<< 24 < 2 ^ 36 := by rw [Nat.shiftLeft_eq]; omega
  exact Nat.or_lt_two_pow (Nat.or_lt_two_pow a b) c
theorem wb_tb (n : Nat) : (lN n).toBitVec = BitVec.ofNat 64 n := rfl
theorem wb_inj {a b : Int64} (h : a.toBitVec = b.toBitVec) : a = b := Int64.toBitVec_inj.mp h
theorem wb_c : ∀ k, k < 64 → ((nI k).toInt64 &&& 63) = lN k := by decide +kernel
theorem wb_sm : ∀ k, k < 64 → (BitVec.ofNat 64 k).smod 64 = BitVec.ofNat 64 k := by decide +kernel
theorem wb_shl (n : Nat) {k : Nat} (hk : k < 64) : lN n <<< ((nI k).toInt64 &&& 63) = lN (n * 2 ^ k) := by
  rw [wb_c k hk]
  apply wb_inj
  rw [Int64.toBitVec_shiftLeft, wb_tb, wb_tb, wb_tb, wb_sm k hk]
  apply BitVec.eq_of_toNat_eq
  rw [BitVec.shiftLeft_eq', BitVec.toNat_shiftLeft, BitVec.toNat_ofNat, BitVec.toNat_ofNat, BitVec.toNat_ofNat, Nat.mod_eq_of_lt (show k < 2 ^ 64 by omega), Nat.shiftLeft_eq, Nat.mul_mod, Nat.mod_mod, ← Nat.mul_mod]
theorem wb_and {a b : Nat} (ha : a < 2 ^ 64) (hb : b < 2 ^ 64) : lN a &&& lN b = lN (a &&& b) := by
  apply wb_inj
  rw [Int64.toBitVec_and, wb_tb, wb_tb, wb_tb]
  apply BitVec.eq_of_toNat_eq
  rw [BitVec.toNat_and, BitVec.toNat_ofNat, BitVec.toNat_ofNat, BitVec.toNat_ofNat, Nat.mod_eq_of_lt ha, Nat.mod_eq_of_lt hb, Nat.mod_eq_of_lt (Nat.and_lt_two_pow _ hb)]
theorem wb_or {a b : Nat} (ha : a < 2 ^ 64) (hb : b < 2 ^ 64) : lN a ||| lN b = lN (a ||| b) := by
  apply wb_inj
  rw [Int64.toBitVec_or, wb_tb, wb_tb, wb_tb]
  apply BitVec.eq_of_toNat_eq
  rw [BitVec.toNat_or, BitVec.toNat_ofNat, BitVec.toNat_ofNat, BitVec.toNat_ofNat, Nat.mod_eq_of_lt ha, Nat.mod_eq_of_lt hb, Nat.mod_eq_of_lt (Nat.or_lt_two_pow ha hb)]
theorem pf_lI {a : Nat} (h : a < 2 ^ 63) : (lN a).toInt = (a : Int) := lg_ofNat_toInt h
theorem pf_shr {a d : Nat} {D : Int64} (hD : (D.toBitVec.smod 64).toNat = d) (h : a < 2 ^ 62) : lN a >>> D = lN (a / 2 ^ d) := by
  have hd : a / 2 ^ d ≤ a := Nat.div_le_self _ _
  apply Int64.toInt_inj.mp
  have e : (lN a >>> D).toInt = (lN a).toInt >>> d := by
    rw [← hD]
    exact BitVec.toInt_sshiftRight ..
  rw [e, Int.shiftRight_eq_div_pow, pf_lI (by omega), pf_lI (by omega)]
  rfl
theorem s63 : ∀ n, n < 32 → (((nI n).toInt64 &&& 63).toBitVec.smod 64).toNat = n := by decide +kernel
theorem srL_n {x k : Nat} (hx : x < 2 ^ 62) (hk : k < 32) : srL (lN x) (nI k) = lN (x >>> k) := by
  unfold srL
  rw [pf_shr (s63 k hk) hx, Nat.shiftRight_eq_div_pow]
theorem shL_n (x : Nat) {k : Nat} (hk : k < 32) : shL (lN x) (nI k) = lN (x <<< k) := by
  unfold shL
  rw [wb_shl x (by omega), Nat.shiftLeft_eq]
theorem lN_andn (a b : Nat) : lN a &&& (lN b ^^^ (-1)) = lN (ndf a b) := by
  apply Int64.toBitVec.inj
  rw [Int64.toBitVec_and, Int64.toBitVec_xor, wb_tb, wb_tb, wb_tb]
  have e : (-1 : Int64).toBitVec = BitVec.allOnes 64 := by decide
  rw [e]
  unfold ndf
  rw [BitVec.ofNat_and, BitVec.ofNat_xor]
  apply BitVec.eq_of_getLsbD_eq
  intro i hi
  simp only [BitVec.getLsbD_and, BitVec.getLsbD_xor, BitVec.getLsbD_allOnes, hi, decide_true]
  cases (BitVec.ofNat 64 a).getLsbD i <;> cases (BitVec.ofNat 64 b).getLsbD i <;> rfl
theorem en_on {f : Nat → Nat} (h : okS f) {t : Nat} (ht : t < 3) : (en f >>> (12 * t)) % 4096 = f t := by
  apply Nat.eq_of_testBit_eq
  intro i
  rw [show (4096 : Nat) = 2 ^ 12 from rfl, Nat.testBit_mod_two_pow, Nat.testBit_shiftRight, en_t h]
  have hb : ∀ x, x < 4096 → 12 ≤ i → x.testBit i = false := fun x hx hi => tb_big (n := 12) hx hi
  obtain ⟨h0, h1, h2⟩ := h
  by_cases hi : i < 12
  · rcases (show t = 0 ∨ t = 1 ∨ t = 2 by omega) with rfl | rfl | rfl
    · simp [hi]
    · simp [hi, show ¬ 12 * 1 + i < 12 by omega, show 12 * 1 + i < 24 by omega]
    · simp [hi, show ¬ 12 * 2 + i < 12 by omega, show ¬ 12 * 2 + i < 24 by omega]
  · have q : (f t).testBit i = false := by
      rcases (show t = 0 ∨ t = 1 ∨ t = 2 by omega) with rfl | rfl | rfl
      · exact hb _ h0 (by omega)
      · exact hb _ h1 (by omega)
      · exact hb _ h2 (by omega)
    simp [hi, q]
theorem on_n {x : Nat} (hx : x < 2 ^ 62) {t : Nat} (ht : t < 3) : f_X_on (lN x) (nI t) = nI ((x >>> (12 * t)) % 4096) := by
  unfold f_X_on
  rw [show (12 : Int32) = nI 12 from rfl, nI_mulL, srL_n hx (by omega), lN_i, show (4095 : Int32) = nI 4095 from rfl, nI_and, show (4095 : Nat) = 2 ^ 12 - 1 from rfl, Nat.and_two_pow_sub_one_eq_mod]
theorem on_e {f : Nat → Nat} (h : okS f) {t : Nat} (ht : t < 3) : f_X_on (lN (en f)) (nI t) = nI (f t) := by
  rw [on_n (Nat.lt_trans (en_lt h) (by decide)) ht, en_on h ht]
theorem so_e {f : Nat → Nat} (h : okS f) {t : Nat} (ht : t < 3) : f_M_setOf (lN (en f)) (nI t) = nI (f t) := on_e h ht
def ups {α : Type} (f : Nat → α) (t : Nat) (m : α) : Nat → α := fun k => if k = t then m else f k
theorem okS_up {f : Nat → Nat} (h : okS f) (t : Nat) {m : Nat} (hm : m < 4096) : okS (ups f t m) := by
  obtain ⟨h0, h1, h2⟩ := h
  unfold okS ups
  refine ⟨?_, ?_, ?_⟩ <;> split <;> assumption
theorem with_e {f : Nat → Nat} (h : okS f) {t m : Nat} (ht : t < 3) (hm : m < 4096) : f_X_with (lN (en f)) (nI t) (nI m) = lN (en (ups f t m)) := by
  unfold f_X_with
  show (lN (en f) &&& (shL (4095 : Int64) ((12 : Int32) * nI t) ^^^ (-1 : Int64))) ||| shL (nI m).toInt64 ((12 : Int32) * nI t) = _
  rw [show (12 : Int32) = nI 12 from rfl, nI_mulL, show (4095 : Int64) = lN 4095 from rfl, shL_n _ (by omega), nI_l (by omega), shL_n _ (by omega), lN_andn]
  have hk : 12 * t ≤ 24 := by omega
  have hp : 2 ^ (12 * t) ≤ 2 ^ 24 := Nat.pow_le_pow_right (by decide) hk
  have a1 : ndf (en f) (4095 <<< (12 * t)) < 2 ^ 64 := Nat.lt_of_le_of_lt (ndf_le _ _) (Nat.lt_trans (en_lt h) (by decide))
  have a2 : m <<< (12 * t) < 2 ^ 64 := by
    rw [Nat.shiftLeft_eq]
    have := Nat.mul_le_mul (Nat.le_of_lt hm) hp
    omega
  rw [wb_or a1 a2]
  congr 1
  apply Nat.eq_of_testBit_eq
  intro i
  rw [en_t (okS_up h t hm), Nat.testBit_or, ndf_t, en_t h, Nat.testBit_shiftLeft, Nat.testBit_shiftLeft, show (4095 : Nat) = 2 ^ 12 - 1 from rfl, Nat.testBit_two_pow_sub_one]
  have hb : ∀ j, 12 ≤ j → m.testBit j = false := fun j hj => tb_big (n := 12) hm hj
  have hf2 : ∀ j, 12 ≤ j → (f 2).testBit j = false := fun j hj => tb_big (n := 12) h.2.2 hj
  unfold ups
  rcases (show t = 0 ∨ t = 1 ∨ t = 2 by omega) with rfl | rfl | rfl
  · by_cases c1 : i < 12
    · simp [c1]
    · simp [c1, hb i (by omega)]
  · by_cases c1 : i < 12
    · simp [c1, show ¬ 12 ≤ i by omega]
    · by_cases c2 : i < 24
      · simp [c1, c2, show 12 ≤ i by omega, show i - 12 < 12 by omega]
      · simp [c1, c2, hb (i - 12) (by omega), show ¬ i - 12 < 12 by omega]
  · by_cases c1 : i < 12
    · simp [c1, show ¬ 24 ≤ i by omega]
    · by_cases c2 : i < 24
      · simp [c1, c2, show ¬ 24 ≤ i by omega]
      · by_cases c3 : i < 36
        · simp [c1, c2, show 24 ≤ i by omega, show i - 24 < 12 by omega]
        · simp [c1, c2, hb (i - 24) (by omega), hf2 (i - 24) (by omega)]
theorem en_0 : en (fun _ => 0) = 0 := rfl
theorem okS_0 : okS (fun _ => 0) := ⟨by decide, by decide, by decide⟩
theorem en_inj {f g : Nat → Nat} (hf : okS f) (hg : okS g) (e : en f = en g) {t : Nat} (ht : t < 3) : f t = g t := by
  rw [← en_on hf ht, ← en_on hg ht, e]
theorem en_eq {f g : Nat → Nat} (h : ∀ t, t < 3 → f t = g t) : en f = en g := by
  unfold en
  rw [h 0 (by decide), h 1 (by decide), h 2 (by decide)]
theorem lN_inj {a b : Nat} (ha : a < 2 ^ 62) (hb : b < 2 ^ 62) (e : lN a = lN b) : a = b := by
  have q := congrArg Int64.toInt e
  rw [pf_lI (by omega), pf_lI (by omega)] at q
  omega
theorem any_e {f : Nat → Nat} (h : okS f) : f_X_anywhere (lN (en f)) = nI (f 0 ||| f 1 ||| f 2) := by
  unfold f_X_anywhere
  rw [show (0 : Int32) = nI 0 from rfl, show (1 : Int32) = nI 1 from rfl, show (2 : Int32) = nI 2 from rfl, on_e h (by decide), on_e h (by decide), on_e h (by decide), nI_or, nI_or]
theorem ev_e {f : Nat → Nat} (h : okS f) : f_M_everyOf (lN (en f)) = nI (f 0 ||| f 1 ||| f 2) := any_e h
end Z21
