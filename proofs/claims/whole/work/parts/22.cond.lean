-- CONDITIONS: what a text is worth
section Z22
def stp (m set r t : Int32) (q : Nat × (Nat → Int32)) : Nat × (Nat → Int32) :=
  if m < 1000 then (q.1 + 1, ups q.2 q.1 m)
  else if m < 2000 then (q.1 + 1, ups q.2 q.1 (f_M_signOf (m - 1000) set r t))
  else if m = 2033 then (q.1, ups q.2 (q.1 - 1) (f_M_flag (decide (q.2 (q.1 - 1) = 0))))
  else (q.1 - 1, ups q.2 (q.1 - 2) (f_M_acted (m - 2000) (q.2 (q.1 - 2)) (q.2 (q.1 - 1))))
def evs (c : Nat → Int32) (set r t : Int32) : Nat → Nat × (Nat → Int32)
  | 0 => (0, fun _ => 0)
  | k + 1 => stp (c k) set r t (evs c set r t k)
def dpt (c : Nat → Int32) : Nat → Nat
  | 0 => 0
  | k + 1 => if c k < 2000 then dpt c k + 1 else if c k = 2033 then dpt c k else dpt c k - 1
theorem lt12 {m : Int32} (h : m < 1000) : m < 2000 := by
  rw [Int32.lt_iff_toInt_lt] at *
  rw [show (1000 : Int32).toInt = 1000 from by decide] at h
  rw [show (2000 : Int32).toInt = 2000 from by decide]
  omega
theorem evs_d (c : Nat → Int32) (set r t : Int32) (k : Nat) : (evs c set r t k).1 = dpt c k := by
  induction k with
  | zero => rfl
  | succ k ih =>
    show (stp (c k) set r t (evs c set r t k)).1 = if c k < 2000 then dpt c k + 1 else if c k = 2033 then dpt c k else dpt c k - 1
    unfold stp
    by_cases h1 : c k < 1000
    · rw [if_pos h1, if_pos (lt12 h1), ih]
    · rw [if_neg h1]
      by_cases h2 : c k < 2000
      · rw [if_pos h2, if_pos h2, ih]
      · rw [if_neg h2, if_neg h2]
        by_cases h3 : c k = 2033
        · rw [if_pos h3, if_pos h3, ih]
        · rw [if_neg h3, if_neg h3, ih]
theorem dpt_le (c : Nat → Int32) (k : Nat) : dpt c k ≤ k := by
  induction k with
  | zero => exact Nat.le_refl _
  | succ k ih =>
    show (if c k < 2000 then dpt c k + 1 else if c k = 2033 then dpt c k else dpt c k - 1) ≤ _
    split
    · omega
    · split <;> omega
def evl (c : Nat → Int32) (n : Nat) (set r t : Int32) : Int32 := if dpt c n = 0 then 0 else (evs c set r t n).2 0
def isMk (m : Int32) : Prop := (∃ v, v < 100 ∧ m = nI v) ∨ (∃ v, v < 15 ∧ m = nI (1000 + v)) ∨ m = 2033 ∨ m = 2124 ∨ m = 2038 ∨ m = 2060 ∨ m = 2062 ∨ m = 2061 ∨ m = 2043 ∨ m = 2045
def wfC (c : Nat → Int32) (n : Nat) : Prop := n ≤ 60 ∧ ∀ k, k < n → isMk (c k) ∧ (¬ c k < 2000 → 1 ≤ dpt c k) ∧ (¬ c k < 2000 → c k ≠ 2033 → 2 ≤ dpt c k)
def p116 : Nat → Nat → Bool := fun o _ => o == 116
theorem evs_s (c : Nat → Int32) (set r t : Int32) (k : Nat) : evs c set r t (k + 1) = stp (c k) set r t (evs c set r t k) := rfl
theorem dpt_s (c : Nat → Int32) (k : Nat) : dpt c (k + 1) = if c k < 2000 then dpt c k + 1 else if c k = 2033 then dpt c k else dpt c k - 1 := rfl
set_option maxHeartbeats 4000000 in
theorem m_works {n p : Nat} {s : ZSt} {len : Nat} {c : Nat → Int32} (set r t : Int32) (hn : 60 < n) (hp : p < 27) (hl : gi s 115 p = nI len) (hc : ∀ k, k < len → gi s 114 (64 * p + k) = c k) (hw : wfC c len) :
    zT (f_M_works n (nI p) set r t s) (fun q => q.1 = evl c len set r t ∧ zE p116 s q.2) := by
  unfold f_M_works
  have hl60 := hw.1
  refine zT.cnt 60 (fun k x => k ≤ len ∧ x.1 = nI (dpt c k) ∧ x.2.1 = nI k ∧ zE p116 s x.2.2 ∧ ∀ i, i < dpt c k → gi x.2.2 116 i = (evs c set r t k).2 i) hn ⟨Nat.zero_le _, rfl, rfl, zE.refl _ _, fun i h => absurd h (Nat.not_lt_zero _)⟩ ?_
  rintro j k ⟨d, i, u⟩ hk ⟨hkl, rfl, rfl, hE, hst⟩ hj
  dsimp only at *
  have hd := dpt_le c k
  refine zT.gu (inb_n hp (by decide)) ?_
  rw [ai_n _ _ (by omega), hE.i (o := 115) rfl, hl]
  refine zT.ite (fun h => ?_) (fun h => ?_)
  · have e : k = len := by
      rw [nI_leI (by omega) (by omega)] at h; omega
    subst e
    refine zT.ite (fun h0 => ?_) (fun h0 => ?_)
    · refine zT.ret ⟨?_, hE⟩
      have : dpt c k = 0 := (nI_eq (by omega) (by decide)).mp h0
      show (0 : Int32) = evl _ _ _ _ _
      unfold evl
      rw [if_pos this]
    · refine zT.ret ⟨?_, hE⟩
      have h1 : ¬ dpt c k = 0 := fun e => h0 (by rw [e]; rfl)
      show ai u 116 (0 : Int32) = evl _ _ _ _ _
      unfold evl
      rw [if_neg h1, show (0 : Int32) = nI 0 from rfl, ai_n _ _ (by decide), hst 0 (by omega)]
  · have hlt : k < len := by
      rw [nI_leI (by omega) (by omega)] at h; omega
    rw [show (64 : Int32) = nI 64 from rfl, nI_mulL, nI_add, ai_n _ _ (by omega), hE.i (o := 114) rfl, hc k hlt]
    refine zT.gu (inb_n (by omega) (by decide)) ?_
    obtain ⟨hm, hw1, hw2⟩ := hw.2 k hlt
    refine zT.ln (fun v7 hv7 => ?_)
    have hv : c k = v7 := hv7.symm
    rw [hv] at hm hw1 hw2
    refine zT.jnQ (fun x8 => x8.1 = nI (dpt c (k + 1)) ∧ zE p116 s x8.2 ∧ ∀ i, i < dpt c (k + 1) → gi x8.2 116 i = (evs c set r t (k + 1)).2 i) ?_ ?_
    · rintro ⟨a, b⟩ ⟨rfl, h2, h3⟩
      refine zT.ltS ?_
      rw [nI_1]
      exact hj (by omega) _ ⟨by omega, rfl, rfl, h2, h3⟩
    · intro j10 hj10
      rw [dpt_s, evs_s, hv] at hj10
      unfold stp at hj10
      rw [evs_d] at hj10
      have hle : ∀ x y : Int32, ¬ x < y ↔ y ≤ x := fun x y => Int32.not_lt
      refine zT.ite (fun c1 => ?_) (fun c1 => ?_)
      · have c1' : ¬ v7 < 1000 := (hle _ _).mpr c1
        simp only [if_neg c1'] at hj10
        refine zT.ite (fun c2 => ?_) (fun c2 => ?_)
        · have c2' : ¬ v7 < 2000 := (hle _ _).mpr c2
          simp only [if_neg c2'] at hj10
          have hd1 := hw1 c2'
          refine zT.ite (fun c3 => ?_) (fun c3 => ?_)
          · simp only [if_pos c3] at hj10
            rw [show (1 : Int32) = nI 1 from rfl, pk_sub hd1, ai_n _ _ (by omega)]
            refine zT.gu (inb_n (by omega) (by decide)) ?_
            refine zT.ln (fun x15 hx => ?_)
            rw [sai_n _ _ _ (by omega)]
            refine zT.ltS ?_
            refine hj10 _ ⟨rfl, hE.wi rfl, fun i hi => ?_⟩
            rw [gi_i]
            unfold ups
            try dsimp only at hi
            try dsimp only
            by_cases e : i = dpt c k - 1
            · rw [if_pos ⟨rfl, e⟩, if_pos e, hx, hst _ (by omega)]
              congr 1
            · rw [if_neg (fun q => e q.2), if_neg e]
              exact hst i hi
          · simp only [if_neg c3] at hj10
            have hd2 := hw2 c2' c3
            refine zT.ltS ?_
            have e1 : nI (dpt c k) + (-1) = nI (dpt c k - 1) := by
              rw [← pk_m1 (dpt c k - 1), Nat.sub_add_cancel hd1]
            rw [e1, show (1 : Int32) = nI 1 from rfl, pk_sub (by omega), ai_n _ _ (by omega), ai_n _ _ (by omega), sai_n _ _ _ (by omega)]
            refine zT.gu (inb_n (by omega) (by decide)) ?_
            refine zT.gu (inb_n (by omega) (by decide)) ?_
            refine zT.ltS ?_
            refine hj10 _ ⟨rfl, hE.wi rfl, fun i hi => ?_⟩
            rw [gi_i]
            unfold ups
            try dsimp only at hi
            try dsimp only
            by_cases e : i = dpt c k - 1 - 1
            · rw [if_pos ⟨rfl, e⟩, if_pos (by omega), hst _ (by omega), hst _ (by omega)]
              rw [show dpt c k - 1 - 1 = dpt c k - 2 by omega]
            · rw [if_neg (fun q => e q.2), if_neg (by omega)]
              exact hst i (by omega)
        · have c2' : v7 < 2000 := Int32.not_le.mp c2
          simp only [if_pos c2'] at hj10
          rw [sai_n _ _ _ (by omega)]
          refine zT.gu (inb_n (by omega) (by decide)) ?_
          refine zT.ltS ?_
          refine zT.ltS ?_
          rw [nI_1]
          refine hj10 _ ⟨rfl, hE.wi rfl, fun i hi => ?_⟩
          rw [gi_i]
          unfold ups
          try dsimp only at hi
          try dsimp only
          by_cases e : i = dpt c k
          · rw [if_pos ⟨rfl, e⟩, if_pos e]
          · rw [if_neg (fun q => e q.2), if_neg e]
            exact hst i (by omega)
      · have c1' : v7 < 1000 := Int32.not_le.mp c1
        have c2' := lt12 c1'
        simp only [if_pos c1', if_pos c2'] at hj10
        rw [sai_n _ _ _ (by omega)]
        refine zT.gu (inb_n (by omega) (by decide)) ?_
        refine zT.ltS ?_
        refine zT.ltS ?_
        rw [nI_1]
        refine hj10 _ ⟨rfl, hE.wi rfl, fun i hi => ?_⟩
        rw [gi_i]
        unfold ups
        try dsimp only at hi
        try dsimp only
        by_cases e : i = dpt c k
        · rw [if_pos ⟨rfl, e⟩, if_pos e]
        · rw [if_neg (fun q => e q.2), if_neg e]
          exact hst i (by omega)
end Z22
