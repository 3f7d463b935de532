-- the reference lays out one table's acts
section Z83
def nxt (a : ZA) (t x k : Nat) : Int32 := if nxk a t x k = true then nI (tgx a t x k) else -1
def LY (u : ZSt) (a : ZA) (t : Nat) : Prop := ∀ x k, x < 2 ^ a.2.1.1 → k < 24 → k % 12 < a.2.1.1 → gi u 136 (24 * x + k) = nxt a t x k
def ply : Nat → Nat → Bool := fun o _ => o == 116 || o == 136
theorem ply_mo {s t : ZSt} (h : zE ply s t) : zE pMo s t := h.mono (fun o j e => by simp [pMo, ply] at *; omega)
theorem MA.sly {s t : ZSt} {a : ZA} (h : MA s a) (hE : zE ply s t) : MA t a := h.fr hE (fun o j e => by simp [qM, ply] at *; omega)
theorem le_ly {s t : ZSt} (h : zE p116 s t) : zE ply s t := h.mono (fun o j e => by simp [p116, ply] at *; omega)
set_option maxHeartbeats 2000000 in
theorem m_laysOut {n t : Nat} {s : ZSt} {a : ZA} (hn : 5000 < n) (h : MA s a) (ht : t < 3) : zT (f_M_laysOut n (nI t) s) (fun u => zE ply s u ∧ LY u a t) := by
  have hnb := h.1.2.2.2.1
  have h12 := pw_12 hnb
  unfold f_M_laysOut
  refine zT.cnt (2 ^ a.2.1.1) (fun x z => z.1 = nI x ∧ zE ply s z.2 ∧ ∀ x' k, x' < x → k < 24 → k % 12 < a.2.1.1 → gi z.2 136 (24 * x' + k) = nxt a t x' k) (by omega) ⟨rfl, zE.refl _ _, fun x' k hx => absurd hx (Nat.not_lt_zero _)⟩ ?_
  rintro j2 x ⟨_, u⟩ hx ⟨rfl, hE, hl⟩ hj2
  dsimp only at *
  have hM := h.sly hE
  rw [hM.2.1.1.1, shI_n (by omega)]
  refine zT.ite (fun c => ?_) (fun c => ?_)
  · rw [nI_leI (by omega) (by omega)] at c
    exact zT.ret ⟨hE, fun x' k h1 h2 h3 => hl x' k (by omega) h2 h3⟩
  rw [nI_leI (by omega) (by omega)] at c
  have hxn : x < 2 ^ a.2.1.1 := by omega
  refine zT.cnt 12 (fun b z => b ≤ a.2.1.1 ∧ z.1 = nI b ∧ zE ply s z.2 ∧ (∀ x' k, x' < x → k < 24 → k % 12 < a.2.1.1 → gi z.2 136 (24 * x' + k) = nxt a t x' k) ∧ ∀ k, k < 24 → k % 12 < b → gi z.2 136 (24 * x + k) = nxt a t x k) (by omega) ⟨Nat.zero_le _, rfl, hE, hl, fun k h1 h2 => absurd h2 (Nat.not_lt_zero _)⟩ ?_
  rintro j5 b ⟨_, v⟩ hb ⟨hbn, rfl, hE2, hl2, hl3⟩ hj5
  dsimp only at *
  have hM2 := h.sly hE2
  rw [hM2.2.1.1.1]
  refine zT.ite (fun c2 => ?_) (fun c2 => ?_)
  · rw [nI_leI (by omega) (by omega)] at c2
    rw [nI_1]
    refine zT.ltS (hj2 (by omega) _ ⟨rfl, hE2, fun x' k h1 h2 h3 => ?_⟩)
    by_cases e : x' = x
    · subst e; exact hl3 k h2 (by omega)
    · exact hl2 x' k (by omega) h2 h3
  rw [nI_leI (by omega) (by omega)] at c2
  have hbn : b < a.2.1.1 := by omega
  have hb2 : 2 ^ b < 2 ^ 12 := Nat.pow_lt_pow_right (by decide) (by omega)
  have hpx := pcn_le x
  have ek : nxk a t x b = tbo a t x b := by
    unfold nxk
    rw [decide_eq_true (show b % 12 < a.2.1.1 by omega), if_pos (show b < 12 by omega), Bool.true_and]
  have ek2 : nxk a t x (12 + b) = x.testBit b := by
    unfold nxk
    rw [decide_eq_true (show (12 + b) % 12 < a.2.1.1 by omega), if_neg (by omega), Bool.true_and, show 12 + b - 12 = b by omega]
  refine zT.jnQ (fun y => y.1 = (if tbo a t x b = true then 1 else 0) ∧ zE p116 v y.2) ?_ ?_
  · rintro ⟨_, w⟩ ⟨rfl, hE3⟩
    dsimp only at *
    have hE23 := hE2.trans (le_ly hE3)
    have hM3 := h.sly hE23
    refine zT.jnQ (fun y => y.1 = nxt a t x b ∧ zE p116 v y.2) ?_ ?_
    · rintro ⟨_, w2⟩ ⟨rfl, hE4⟩
      dsimp only at *
      rw [show (24 : Int32) = nI 24 from rfl, show (12 : Int32) = nI 12 from rfl, nI_mulL, nI_add, nI_add, nI_add]
      refine zT.gu (inb_n (by omega) (by decide)) ?_
      rw [sai_n _ _ _ (by omega)]
      refine zT.ln (fun s11 hs11 => ?_)
      have hE11 : zE ply v s11 := by rw [hs11]; exact (le_ly hE4).wi (by simp [ply])
      have hM11 := h.sly (hE2.trans hE11)
      refine zT.jnQ (fun y => y.1 = nxt a t x (12 + b) ∧ zE p116 s11 y.2) ?_ ?_
      · rintro ⟨_, w3⟩ ⟨rfl, hE5⟩
        dsimp only at *
        refine zT.gu (inb_n (by omega) (by decide)) ?_
        rw [sai_n _ _ _ (by omega), nI_1]
        have g : ∀ j, j ≠ 24 * x + b → j ≠ 24 * x + 12 + b → gi (si w3 136 (24 * x + 12 + b) (nxt a t x (12 + b))) 136 j = gi v 136 j := fun j h1 h2 => by
          rw [gi_i, if_neg (fun w => h2 w.2), hE5.i (by simp [p116]), hs11, gi_i, if_neg (fun w => h1 w.2), hE4.i (by simp [p116])]
        refine zT.ltS (zT.ltS (hj5 (by omega) _ ⟨by omega, rfl, (hE2.trans (hE11.trans (le_ly hE5))).wi (by simp [ply]), fun x' k h1 h2 h3 => ?_, fun k h1 h2 => ?_⟩))
        · dsimp only
          rw [g _ (by omega) (by omega)]
          exact hl2 x' k h1 h2 h3
        · dsimp only
          by_cases e1 : k = b
          · subst e1
            rw [gi_i, if_neg (by omega), hE5.i (by simp [p116]), hs11, gi_i, if_pos ⟨rfl, rfl⟩]
          · by_cases e2 : k = 12 + b
            · subst e2
              rw [gi_i, if_pos ⟨rfl, by omega⟩]
            · rw [g _ (by omega) (by omega)]
              exact hl3 k h1 (by omega)
      · intro j16 hj16
        rw [has_n (by omega) (by omega), shI_n (by omega), nI_andn]
        refine zT.ite (fun c3 => ?_) (fun c3 => ?_)
        · refine zT.bnT (m_settled (by omega) hM11.2.1.1 (show ndf x (2 ^ b) < 2 ^ a.2.1.1 from Nat.lt_of_le_of_lt (ndf_le _ _) hxn)) ?_
          rintro ⟨_, y⟩ ⟨rfl, hE5⟩
          refine hj16 _ ⟨?_, hE5⟩
          unfold nxt tgx
          rw [ek2, if_pos c3, if_neg (by omega), show 12 + b - 12 = b by omega]
          rfl
        · refine hj16 _ ⟨?_, zE.refl _ _⟩
          unfold nxt
          rw [ek2, if_neg c3]
    · intro j19 hj19
      by_cases c3 : tbo a t x b = true
      · rw [if_pos c3]
        refine zT.ie (by decide) ?_
        rw [shI_n (by omega), nI_or]
        refine zT.bnT (m_settled (by omega) hM3.2.1.1 (show x ||| 2 ^ b < 2 ^ a.2.1.1 from or_lt hxn (p2_lt hbn))) ?_
        rintro ⟨_, y⟩ ⟨rfl, hE5⟩
        refine hj19 _ ⟨?_, hE3.trans hE5⟩
        unfold nxt tgx
        rw [ek, if_pos c3, if_pos (by omega)]
        rfl
      · rw [if_neg c3]
        refine zT.it rfl (hj19 _ ⟨?_, hE3⟩)
        unfold nxt
        rw [ek, if_neg c3]
  · intro j22 hj22
    refine zT.jnQ (fun y => tbo a t x b = false ∧ zE p116 v y) ?_ ?_
    · rintro y ⟨q1, q2⟩
      exact hj22 _ ⟨by rw [q1, if_neg (by decide)], q2⟩
    · intro j24 hj24
      rw [has_n (by omega) (by omega)]
      refine zT.ite (fun c3 => hj24 _ ⟨?_, zE.refl _ _⟩) (fun c3 => ?_)
      · unfold tbo
        rw [c3]; rfl
      have c3 : x.testBit b = false := by cases q : x.testBit b; rfl; exact absurd q c3
      refine zT.gu (inb_n (by omega) (by decide)) ?_
      rw [ai_n _ _ (by omega), ai_n _ _ (by omega), hM2.2.1.2.1 b hbn, hM2.2.1.2.2.1 b (by omega)]
      refine zT.ite (fun c4 => hj24 _ ⟨?_, zE.refl _ _⟩) (fun c4 => ?_)
      · unfold tbo
        rw [show loA a b = false from decide_eq_false (Int32.not_lt.mpr c4), c3]; rfl
      have c4 : loA a b = true := decide_eq_true (Int32.not_le.mp c4)
      have hr := hM2.2.1.2.2.2.1 t ht
      refine zT.gu (inb_n ht (by decide)) ?_
      rw [ai_n _ _ (by omega), hr.1, bc_n _ (by omega)]
      refine zT.ite (fun c5 => hj24 _ ⟨?_, zE.refl _ _⟩) (fun c5 => ?_)
      · rw [nI_leI (by omega) (by omega)] at c5
        unfold tbo
        rw [decide_eq_false (show ¬ pcn x < a.2.1.2.2.2.2.2 t by omega)]; simp
      rw [nI_leI (by omega) (by omega)] at c5
      refine zT.bnT (m_may (by omega) hM2.2.1.1 hbn) ?_
      rintro ⟨_, y⟩ ⟨rfl, hE5⟩
      have e : tbo a t x b = vmy (aD a) b t x := by
        unfold tbo
        rw [c3, c4, decide_eq_true (show pcn x < a.2.1.2.2.2.2.2 t by omega)]; rfl
      refine zT.ite (fun c6 => hj22 _ ⟨by rw [e, if_pos (show vmy (aD a) b t x = true from c6)], hE5⟩) (fun c6 => hj24 _ ⟨?_, hE5⟩)
      rw [e]
      cases q : vmy (aD a) b t x
      · rfl
      · exact absurd q c6
end Z83
