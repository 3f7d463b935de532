-- acts by their numbers are the class's acts by their kinds
section Z73
def sok (a : ZA) (c k : Nat) : Bool := decide (k % 20 < a.2.1.1) && decide (wy (aD a) a.2.1.2.2.2.2.2 (dcd c) (loA a) k = 0)
def sac (a : ZA) (c : Nat) : Nat → List (Nat × Nat)
  | 0 => []
  | k + 1 => if sok a c k = true then sac a c k ++ [(k, en (aft (aD a) a.2.1.1 (dcd c) k))] else sac a c k
theorem sac_s (a : ZA) (c k : Nat) : sac a c (k + 1) = if sok a c k = true then sac a c k ++ [(k, en (aft (aD a) a.2.1.1 (dcd c) k))] else sac a c k := rfl
theorem sac_pre (a : ZA) (c k : Nat) : ∀ m, k ≤ m → ∃ r, sac a c m = sac a c k ++ r := by
  intro m
  induction m with
  | zero => intro h; rw [show k = 0 by omega]; exact ⟨[], (List.append_nil _).symm⟩
  | succ m ih =>
    intro h
    by_cases e : k = m + 1
    · rw [e]; exact ⟨[], (List.append_nil _).symm⟩
    · obtain ⟨r, hr⟩ := ih (by omega)
      rw [sac_s, hr]
      split
      · exact ⟨r ++ [(m, en (aft (aD a) a.2.1.1 (dcd c) m))], by rw [List.append_assoc]⟩
      · exact ⟨r, rfl⟩
theorem sac_skip {a : ZA} {c : Nat} (hnb : a.2.1.1 ≤ 12) (kd : Nat) : ∀ m, m ≤ 8 → sac a c (20 * kd + 12 + m) = sac a c (20 * kd + 12) := by
  intro m
  induction m with
  | zero => intro _; rfl
  | succ m ih =>
    intro h
    rw [show 20 * kd + 12 + (m + 1) = (20 * kd + 12 + m) + 1 by omega, sac_s, if_neg ?_]
    · exact ih (by omega)
    · unfold sok
      rw [decide_eq_false (show ¬ (20 * kd + 12 + m) % 20 < a.2.1.1 by omega)]
      simp
theorem posA_bit {a : ZA} {c kd b : Nat} (hF : okF a.2.1.1 (dcd c)) (hkd : kd < 7) (hb : b < 12) : (posA a (dcd c) kd).testBit b = sok a c (20 * kd + b) := by
  have e : (20 * kd + b) % 20 = b := by omega
  unfold posA sok
  rw [e]
  rcases (show kd < 3 ∨ kd = 3 ∨ 4 ≤ kd by omega) with h | h | h
  · exact pos_bit h (by omega)
  · subst h
    rw [pos_3]
    unfold wy
    rw [if_neg (by omega), if_pos (by omega), e]
    have h1 := any_bit (f := dcd c) (b := b)
    have h2 := any_n hF
    by_cases q : tof (dcd c) b < 3
    · have h3 := h1.mpr q
      rw [h3, if_pos q, decide_eq_true (show b < a.2.1.1 by
        rcases Nat.lt_or_ge b a.2.1.1 with w | w
        · exact w
        · rw [tb_big h2 w] at h3; cases h3), decide_eq_true rfl]
      rfl
    · have h3 : (anyw (dcd c)).testBit b = false := by
        cases w : (anyw (dcd c)).testBit b
        · rfl
        · exact absurd (h1.mp w) q
      rw [h3, if_neg q, decide_eq_false (show ¬ (-2 : Int32) = 0 by decide), Bool.and_false]
  · exact pos_bit2 hF h hkd (by omega)
theorem sac_kd {a : ZA} {c kd : Nat} (hF : okF a.2.1.1 (dcd c)) (hkd : kd < 7) : ∀ b, b ≤ 12 → sac a c (20 * kd + b) = sac a c (20 * kd) ++ skd a c kd b := by
  intro b
  induction b with
  | zero => intro _; exact (List.append_nil _).symm
  | succ b ih =>
    intro h
    rw [show 20 * kd + (b + 1) = (20 * kd + b) + 1 by omega, sac_s, skd_s, posA_bit hF hkd (by omega), ih (by omega)]
    split
    · rw [List.append_assoc]
    · rfl
theorem sac_sks {a : ZA} {c : Nat} (hnb : a.2.1.1 ≤ 12) (hF : okF a.2.1.1 (dcd c)) : ∀ k, k ≤ 7 → sac a c (20 * k) = sks a wal c k := by
  intro k
  induction k with
  | zero => intro _; rfl
  | succ k ih =>
    intro h
    rw [show 20 * (k + 1) = 20 * k + 12 + 8 by omega, sac_skip hnb k 8 (by omega), sac_kd hF (by omega) 12 (by omega), ih (by omega), sks_s, if_pos (show wal k = true from rfl)]
theorem sac_all {a : ZA} {c : Nat} (hnb : a.2.1.1 ≤ 12) (hF : okF a.2.1.1 (dcd c)) : sac a c 140 = sucA a wal c := sac_sks hnb hF 7 (by omega)
theorem sac_len {a : ZA} {c k : Nat} (hnb : a.2.1.1 ≤ 12) (hF : okF a.2.1.1 (dcd c)) (hk : k ≤ 140) : (sac a c k).length ≤ 36 := by
  obtain ⟨r, hr⟩ := sac_pre a c k 140 hk
  have h := suc_36 a wal c
  rw [← sac_all hnb hF, hr, List.length_append] at h
  omega
theorem m_stateNow {s : ZSt} {f : Nat → Nat} (hf : ∀ t, t < 3 → gi s 108 t = nI (f t)) (hS : okS f) : f_M_stateNow s = some (lN (en f)) := by
  obtain ⟨h0, h1, h2⟩ := id hS
  unfold f_M_stateNow
  rw [show (0 : Int32) = nI 0 from rfl, show (1 : Int32) = nI 1 from rfl, show (2 : Int32) = nI 2 from rfl, ai_n _ _ (by decide), ai_n _ _ (by decide), ai_n _ _ (by decide), hf 0 (by decide), hf 1 (by decide), hf 2 (by decide), nI_l (by omega), nI_l (by omega), nI_l (by omega), show (12 : Int32) = nI 12 from rfl, show (24 : Int32) = nI 24 from rfl, shL_n _ (by decide), shL_n _ (by decide)]
  have b : f 1 <<< 12 < 2 ^ 64 := by rw [Nat.shiftLeft_eq]; omega
  have c : f 2 <<< 24 < 2 ^ 64 := by rw [Nat.shiftLeft_eq]; omega
  rw [wb_or (by omega) b, wb_or (Nat.or_lt_two_pow (by omega) b) c]
  rfl
theorem m_stands {n c : Nat} (s : ZSt) (hn : 3 < n) (hc : c < 2 ^ 36) : zT (f_M_stands n (lN c) s) (fun t => zE (fun o _ => o == 108) s t ∧ ∀ u, u < 3 → gi t 108 u = nI (dcd c u)) := by
  unfold f_M_stands
  refine zT.cnt 3 (fun k x => x.1 = nI k ∧ zE (fun o _ => o == 108) s x.2 ∧ ∀ u, u < k → gi x.2 108 u = nI (dcd c u)) hn ⟨rfl, zE.refl _ _, fun u hu => absurd hu (Nat.not_lt_zero _)⟩ ?_
  rintro j k ⟨_, t⟩ hk ⟨rfl, hE, hl⟩ hj
  dsimp only at *
  refine zT.ite (fun q => ?_) (fun q => ?_)
  · rw [show (3 : Int32) = nI 3 from rfl, nI_leI (by omega) (by omega)] at q
    have e : k = 3 := by omega
    subst e
    exact zT.ret ⟨hE, hl⟩
  · rw [show (3 : Int32) = nI 3 from rfl, nI_leI (by omega) (by omega)] at q
    refine zT.gu (inb_n (by omega) (by decide)) ?_
    have e : f_M_setOf (lN c) (nI k) = nI (dcd c k) := by
      have := so_e (dcd_S c) (t := k) (by omega)
      rw [en_dcd hc] at this
      exact this
    rw [sai_n _ _ _ (by omega), e, nI_1]
    refine zT.ltS (zT.ltS (hj (by omega) _ ⟨rfl, hE.wi rfl, fun u hu => ?_⟩))
    dsimp only
    rw [gi_i]
    by_cases e : u = k
    · rw [if_pos ⟨rfl, e⟩, e]
    · rw [if_neg (fun w => e w.2)]; exact hl u (by omega)
end Z73
