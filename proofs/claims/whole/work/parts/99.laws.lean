-- the law's loop: every call's answers agree
section Z99
/-- both sides hold the same state -/
def LI (s : ZSt) (a : ZA) (T : Nat) : Prop := MA s a ∧ XX s T a ∧ XS s
theorem xP_S {α : Type} {X : Option (α × ZSt)} {v : α} {T : Nat} {a : ZA} {s : ZSt} (hS : XS s) (h : zT X (xP v T a s)) : zT X (xPS v T a s) := h.mono (fun _ ⟨q1, q2, q3⟩ => ⟨q1, xo_xS q2, q3, hS.o q2⟩)
theorem XX.oS2 {s t : ZSt} {T : Nat} {a : ZA} (h : XX s T a) (hE : zE pMo s t) : XX t T a := h.o hE
section
variable {P : Bool × ZSt → Prop} {k : ZSt → Option (Bool × ZSt)} {s : ZSt} {a a' : ZA} {T T' : Nat}
theorem law_i {v : Int32} {X : Option (Int32 × ZSt)} {M : ZSt → Option (Int32 × ZSt)} (h : LI s a T) (hX : zT X (xPS v T' a' s)) (hM : ∀ t, MA t a → zT (M t) (mP v a' t)) (hk : ∀ z, LI z a' T' → zT (k z) P) :
    zT (bn X (fun p7 => bn (M p7.2) (fun p8 => (if p7.1 = p8.1 then k p8.2 else some (false, p8.2))))) P := by
  refine zT.bnT hX ?_
  rintro ⟨_, t⟩ ⟨rfl, hE, hX2, hS2⟩
  refine zT.bnT (hM t (h.1.oS hE)) ?_
  rintro ⟨_, z⟩ ⟨rfl, hE2, hM2⟩
  exact zT.it rfl (hk z ⟨hM2, hX2.o hE2, hS2.m hE2⟩)
theorem law_b {v : Bool} {X : Option (Bool × ZSt)} {M : ZSt → Option (Bool × ZSt)} (h : LI s a T) (hX : zT X (xPS v T' a' s)) (hM : ∀ t, MA t a → zT (M t) (mP v a' t)) (hk : ∀ z, LI z a' T' → zT (k z) P) :
    zT (bn X (fun p7 => bn (M p7.2) (fun p8 => (if (b2i p7.1) = (b2i p8.1) then k p8.2 else some (false, p8.2))))) P := by
  refine zT.bnT hX ?_
  rintro ⟨_, t⟩ ⟨rfl, hE, hX2, hS2⟩
  refine zT.bnT (hM t (h.1.oS hE)) ?_
  rintro ⟨_, z⟩ ⟨rfl, hE2, hM2⟩
  exact zT.it rfl (hk z ⟨hM2, hX2.o hE2, hS2.m hE2⟩)
theorem law_v {v w : Int32} {M : ZSt → Option (Int32 × ZSt)} (h : LI s a T) (hX : w = v) (hM : zT (M s) (mP v a s)) (hk : ∀ z, LI z a T → zT (k z) P) :
    zT (bn (M s) (fun p8 => (if w = p8.1 then k p8.2 else some (false, p8.2)))) P := by
  refine zT.bnT hM ?_
  rintro ⟨_, z⟩ ⟨rfl, hE2, hM2⟩
  exact zT.it hX (hk z ⟨hM2, h.2.1.o hE2, h.2.2.m hE2⟩)
theorem law_w {v : Int32} {X : Option Int32} {M : ZSt → Option (Int32 × ZSt)} (h : LI s a T) (hX : X = some v) (hM : zT (M s) (mP v a s)) (hk : ∀ z, LI z a T → zT (k z) P) :
    zT (bn X (fun p7 => bn (M s) (fun p8 => (if p7 = p8.1 then k p8.2 else some (false, p8.2))))) P := by
  refine zT.bnE hX (zT.bnT hM ?_)
  rintro ⟨_, z⟩ ⟨rfl, hE2, hM2⟩
  exact zT.it rfl (hk z ⟨hM2, h.2.1.o hE2, h.2.2.m hE2⟩)
theorem MA.oL {s t : ZSt} {a : ZA} (h : MA s a) (hE : zE pXL s t) : MA t a := h.fr hE (fun o j e => by
  simp [qM, pXL] at *; omega)
theorem XS.oL {s t : ZSt} (h : XS s) (hE : zE pXL s t) : XS t := by
  obtain ⟨Q, c, l, h⟩ := h
  exact ⟨Q, c, l, h.fr hE (fun o j e => by simp [pXL] at *; omega)⟩
theorem law_t {v : Option Int32} {X : Option (Int32 × ZSt)} {M : ZSt → Option (Int32 × ZSt)} (h : LI s a T) (hX : zT X (xPT v T a s)) (hM : ∀ t, MA t a → zT (M t) (mPT v a t)) (hk : ∀ z, LI z a T → zT (k z) P) :
    zT (bn X (fun p42 => bn (M p42.2) (fun p43 => (if (f_M_thrown p43.2) = p42.1 then (if p42.1 = 0 then (if (lg_cmp (al p43.2 550 (0 : Int32)) p43.1.toInt64) = 0 then k p43.2 else some (false, p43.2)) else k p43.2) else some (false, p43.2))))) P := by
  refine zT.bnT hX ?_
  rintro ⟨_, t⟩ ⟨rfl, hv, hE, hX2⟩
  dsimp only at *
  refine zT.bnT (hM t (h.1.oL hE)) ?_
  rintro ⟨w, z⟩ ⟨hw, h00, hE2, hM2⟩
  dsimp only at *
  have fin := hk z ⟨hM2, hX2.o hE2, (h.2.2.oL hE).m hE2⟩
  have e1 : f_M_thrown z = (if v.isSome = true then 0 else 1) := h00
  rw [e1]
  refine zT.it rfl ?_
  cases v with
  | none => exact zT.ie (by decide) fin
  | some u =>
    refine zT.it rfl (zT.it ?_ fin)
    have e2 : al z 550 (0 : Int32) = al t 550 (0 : Int32) := by
      show gl z 550 _ = gl t 550 _
      exact hE2.l rfl
    rw [e2, hv u rfl, hw]
    exact (lg_0 _ _).mpr rfl
end
set_option maxHeartbeats 4000000 in
theorem law_holds {n Ls : Nat} {xs : Nat → Int32} {s : ZSt} {a0 : ZA} (hn : 70000 < n) (hL : Ls ≤ 2560) (h : LI s a0 0) : zT (f_L_law n Ls xs s) (fun r => r.1 = true) := by
  unfold f_L_law
  refine zT.cnt 512 (fun k x => x.1 = nI (5 * k) ∧ ∃ a T, T ≤ 601 * k ∧ LI x.2 a T) (by omega) ⟨rfl, a0, 0, Nat.zero_le _, h⟩ ?_
  rintro j i ⟨_, z⟩ hi ⟨rfl, a, T, hT, hI⟩ hj
  dsimp only at *
  refine zT.jnQ (fun y => i < 512 ∧ ∃ a T, T ≤ 601 * (i + 1) ∧ LI y a T) ?_ ?_
  · rintro y ⟨hi2, a', T', hT', hI'⟩
    rw [show (5 : Int32) = nI 5 from rfl, nI_add]
    exact zT.ltS (hj hi2 _ ⟨by dsimp only; congr 1, a', T', hT', hI'⟩)
  intro k hk
  refine zT.ite (fun c => zT.ret rfl) (fun c => ?_)
  have hb : 5 * i + 5 ≤ Ls := by
    rcases Nat.lt_or_ge Ls 5 with w | w
    · exfalso
      apply c
      have key : ∀ m, m < 5 → nI m - 5 < 0 := by decide
      exact Int32.lt_of_lt_of_le (key Ls w) (nI_pos' (by omega))
    · rw [show Int32.ofNat Ls - (5 : Int32) = nI (Ls - 5) from pk_sub (b := 5) w, nI_ltI (by omega) (by omega)] at c
      omega
  have hi2 : i < 512 := by omega
  have hgo : ∀ y a' T', T' ≤ T + 601 → LI y a' T' → zT (k y) (fun r => r.1 = true) := fun y a' T' q1 q2 => hk y ⟨hi2, a', T', by omega, q2⟩
  clear hk hj c
  obtain ⟨hM, hX, hS⟩ := id hI
  have g0 : inb (nI (5 * i)) Ls = true := inb_n (by omega) (by omega)
  have g1 : inb (nI (5 * i) + (1 : Int32)) Ls = true := by rw [show (1 : Int32) = nI 1 from rfl, nI_add]; exact inb_n (by omega) (by omega)
  have g2 : inb (nI (5 * i) + (2 : Int32)) Ls = true := by rw [show (2 : Int32) = nI 2 from rfl, nI_add]; exact inb_n (by omega) (by omega)
  have g3 : inb (nI (5 * i) + (3 : Int32)) Ls = true := by rw [show (3 : Int32) = nI 3 from rfl, nI_add]; exact inb_n (by omega) (by omega)
  have g4 : inb (nI (5 * i) + (4 : Int32)) Ls = true := by rw [show (4 : Int32) = nI 4 from rfl, nI_add]; exact inb_n (by omega) (by omega)
  refine zT.gu g0 (zT.ln (fun v4 _ => ?_))
  refine zT.ite (fun _ => ?_) (fun _ => ?_)
  · exact zT.gu g1 (law_i hI (xP_S hS (x_sign _ (by omega) hX)) (fun t hM => m_sign _ (by omega) hM) (fun y hy => hgo y _ _ (by omega) hy))
  refine zT.ite (fun _ => ?_) (fun _ => ?_)
  · exact zT.gu g1 (law_b hI (xP_S hS (x_end _ hX)) (fun t hM => m_end _ hM) (fun y hy => hgo y _ _ (by omega) hy))
  refine zT.ite (fun _ => ?_) (fun _ => ?_)
  · exact zT.gu g1 (law_i hI (xP_S hS (x_book _ (by omega) (by omega) hX)) (fun t hM => m_book _ (by omega) hM) (fun y hy => hgo y _ _ (by omega) hy))
  refine zT.ite (fun _ => ?_) (fun _ => ?_)
  · exact law_i hI (xP_S hS (x_rule (by omega) hX)) (fun t hM => m_rule (by omega) hM) (fun y hy => hgo y _ _ (by omega) hy)
  refine zT.ite (fun _ => ?_) (fun _ => ?_)
  · exact zT.gu g1 (zT.gu g2 (zT.gu g3 (law_i hI (xP_S hS (x_set _ _ _ hX)) (fun t hM => m_set _ _ _ hM) (fun y hy => hgo y _ _ (by omega) hy))))
  refine zT.ite (fun _ => ?_) (fun _ => ?_)
  · exact zT.gu g1 (zT.gu g2 (zT.gu g3 (zT.gu g4 (law_i hI (xP_S hS (x_sheet _ _ _ _ (by omega) hX)) (fun t hM => m_sheet _ _ _ _ (by omega) hM) (fun y hy => hgo y _ _ (by omega) hy)))))
  refine zT.ite (fun _ => ?_) (fun _ => ?_)
  · exact zT.gu g1 (zT.gu g2 (law_t hI (x_about _ _ (by omega) hX) (fun t hM => m_about _ _ (by omega) hM) (fun y hy => hgo y _ _ (by omega) hy)))
  refine zT.ite (fun _ => ?_) (fun _ => ?_)
  · exact zT.gu g1 (law_v (M := fun t => f_M_open _ t) hI (x_open _ hX) (m_open _ hM) (fun y hy => hgo y _ _ (by omega) hy))
  refine zT.ite (fun _ => ?_) (fun _ => ?_)
  · exact zT.gu g1 (zT.gu g2 (law_t hI (x_value _ _ (by omega) hX) (fun t hM => m_value _ _ (by omega) hM) (fun y hy => hgo y _ _ (by omega) hy)))
  refine zT.ite (fun _ => ?_) (fun _ => ?_)
  · exact zT.gu g1 (law_i hI (xP_S hS (x_act _ (by omega) hX)) (fun t hM => m_act _ (by omega) hM) (fun y hy => hgo y _ _ (by omega) hy))
  refine zT.ite (fun _ => ?_) (fun _ => ?_)
  · exact zT.gu g1 (law_i hI (xP_S hS (x_why _ (by omega) hX)) (fun t hM => m_why _ (by omega) hM) (fun y hy => hgo y _ _ (by omega) hy))
  refine zT.ite (fun _ => ?_) (fun _ => ?_)
  · exact law_i hI (xP_S hS (x_can (by omega) hX)) (fun t hM => m_can (by omega) hM) (fun y hy => hgo y _ _ (by omega) hy)
  refine zT.ite (fun _ => ?_) (fun _ => ?_)
  · exact zT.gu g1 (law_i hI (xP_S hS (x_night _ (by omega) hX)) (fun t hM => m_night _ (by omega) hM) (fun y hy => hgo y _ _ (by omega) hy))
  refine zT.ite (fun _ => ?_) (fun _ => ?_)
  · exact zT.gu g1 (zT.gu g2 (zT.gu g3 (law_i hI (xP_S hS (x_judge _ _ _ (by omega) hX)) (fun t hM => m_judge _ _ _ (by omega) hM) (fun y hy => hgo y _ _ (by omega) hy))))
  refine zT.ite (fun _ => ?_) (fun _ => ?_)
  · exact zT.gu g1 (zT.gu g2 (law_i hI (xP_S hS (x_reader _ _ hX)) (fun t hM => m_reader _ _ hM) (fun y hy => hgo y _ _ (by omega) hy)))
  refine zT.ite (fun _ => ?_) (fun _ => ?_)
  · exact zT.gu g1 (zT.gu g2 (law_i hI (xP_S hS (x_sit _ _ hX)) (fun t hM => m_sit _ _ hM) (fun y hy => hgo y _ _ (by omega) hy)))
  refine zT.ite (fun _ => ?_) (fun _ => ?_)
  · exact zT.gu g1 (zT.gu g2 (law_i hI (xP_S hS (x_read _ _ (by omega) (by omega) hX)) (fun t hM => m_read _ _ (by omega) hM) (fun y hy => hgo y _ _ (by omega) hy)))
  refine zT.ite (fun _ => ?_) (fun _ => ?_)
  · exact zT.gu g1 (zT.gu g2 (law_t hI (x_of _ _ hX) (fun t hM => m_of _ _ hM) (fun y hy => hgo y _ _ (by omega) hy)))
  refine zT.ite (fun _ => ?_) (fun _ => ?_)
  · exact zT.gu g1 (law_i hI (xP_S hS (x_hours _ (by omega) (by omega) hX)) (fun t hM => m_hours _ (by omega) hM) (fun y hy => hgo y _ _ (by omega) hy))
  refine zT.ite (fun _ => ?_) (fun _ => ?_)
  · exact zT.gu g1 (law_w (M := fun t => f_M_log _ t) hI (x_log _ (by omega) hX) (m_log _ hM) (fun y hy => hgo y _ _ (by omega) hy))
  refine zT.ite (fun _ => ?_) (fun _ => ?_)
  · exact law_i hI (xP_S hS (x_order (by omega) hX)) (fun t hM => m_order (by omega) hM) (fun y hy => hgo y _ _ (by omega) hy)
  refine zT.ite (fun _ => ?_) (fun _ => ?_)
  · exact law_i hI (xP_S hS (x_ring (by omega) hX)) (fun t hM => m_ring (by omega) hM) (fun y hy => hgo y _ _ (by omega) hy)
  refine zT.ite (fun _ => ?_) (fun _ => ?_)
  · exact zT.gu g1 (zT.gu g2 (law_i hI (xP_S hS (x_needs _ _ (by omega) hX)) (fun t hM => m_needs _ _ (by omega) hM) (fun y hy => hgo y _ _ (by omega) hy)))
  refine zT.ite (fun _ => ?_) (fun _ => ?_)
  · exact zT.gu g1 (zT.gu g2 (law_i hI (xP_S hS (x_bars _ _ (by omega) hX)) (fun t hM => m_bars _ _ (by omega) hM) (fun y hy => hgo y _ _ (by omega) hy)))
  refine zT.ite (fun _ => ?_) (fun _ => ?_)
  · exact zT.gu g1 (zT.gu g2 (law_i hI (xP_S hS (x_least _ _ (by omega) hX)) (fun t hM => m_least _ _ (by omega) hM) (fun y hy => hgo y _ _ (by omega) hy)))
  refine zT.ite (fun _ => ?_) (fun _ => ?_)
  · exact zT.gu g1 (law_i hI (xP_S hS (x_knot _ (by omega) hX)) (fun t hM => m_knot _ (by omega) hM) (fun y hy => hgo y _ _ (by omega) hy))
  refine zT.ite (fun _ => ?_) (fun _ => ?_)
  · exact zT.gu g1 (law_i hI (xP_S hS (x_hold _ (by omega) hX)) (fun t hM => m_hold _ (by omega) hM) (fun y hy => hgo y _ _ (by omega) hy))
  refine zT.ite (fun _ => ?_) (fun _ => ?_)
  · exact zT.gu g1 (law_i hI (x_comes _ (by omega) hX hS) (fun t hM => m_comes _ (by omega) hM) (fun y hy => hgo y _ _ (by omega) hy))
  refine zT.ite (fun _ => ?_) (fun _ => ?_)
  · exact zT.gu g1 (zT.gu g2 (law_i hI (x_together _ _ (by omega) hX hS) (fun t hM => m_together _ _ (by omega) hM) (fun y hy => hgo y _ _ (by omega) hy)))
  refine zT.ite (fun _ => ?_) (fun _ => ?_)
  · exact zT.gu g1 (law_i hI (xP_S hS (x_frees _ (by omega) hX)) (fun t hM => m_frees _ (by omega) hM) (fun y hy => hgo y _ _ (by omega) hy))
  refine zT.ite (fun _ => ?_) (fun _ => ?_)
  · exact zT.gu g1 (zT.gu g2 (law_i hI (x_keeps _ _ (by omega) hX hS) (fun t hM => m_keeps _ _ (by omega) hM) (fun y hy => hgo y _ _ (by omega) hy)))
  refine zT.ite (fun _ => ?_) (fun _ => ?_)
  · exact zT.gu g1 (zT.gu g2 (law_i hI (x_fin _ _ (by omega) hX hS) (fun t hM => m_fin _ _ (by omega) hM) (fun y hy => hgo y _ _ (by omega) hy)))
  refine zT.ite (fun _ => ?_) (fun _ => ?_)
  · exact law_i hI (x_reach (by omega) hX hS) (fun t hM => m_reach (by omega) hM) (fun y hy => hgo y _ _ (by omega) hy)
  refine zT.ite (fun _ => ?_) (fun _ => ?_)
  · exact zT.gu g1 (law_i hI (x_soonest _ (by omega) hX hS) (fun t hM => m_soonest _ (by omega) hM) (fun y hy => hgo y _ _ (by omega) hy))
  refine zT.ite (fun _ => ?_) (fun _ => ?_)
  · exact zT.gu g1 (zT.gu g2 (zT.gu g3 (law_i hI (x_till _ _ _ (by omega) hX hS) (fun t hM => m_till _ _ _ (by omega) hM) (fun y hy => hgo y _ _ (by omega) hy))))
  refine zT.ite (fun _ => ?_) (fun _ => ?_)
  · exact law_i hI (x_lost (by omega) hX hS) (fun t hM => m_lost (by omega) hM) (fun y hy => hgo y _ _ (by omega) hy)
  refine zT.ite (fun _ => ?_) (fun _ => ?_)
  · exact law_i hI (x_free (by omega) hX hS) (fun t hM => m_free (by omega) hM) (fun y hy => hgo y _ _ (by omega) hy)
  refine zT.ite (fun _ => ?_) (fun _ => ?_)
  · exact zT.gu g1 (law_b hI (xP_S hS (x_keep _ (by omega) hX)) (fun t hM => m_keep _ (by omega) hM) (fun y hy => hgo y _ _ (by omega) hy))
  refine zT.ite (fun _ => ?_) (fun _ => ?_)
  · exact zT.gu g1 (law_b hI (xP_S hS (x_again _ (by omega) (by omega) hX)) (fun t hM => m_again _ (by omega) hM) (fun y hy => hgo y _ _ (by omega) hy))
  refine zT.ite (fun _ => ?_) (fun _ => ?_)
  · exact zT.gu g1 (law_v (M := fun t => f_M_count _ t) hI (x_count _ (by omega) hX) (m_count _ hM) (fun y hy => hgo y _ _ (by omega) hy))
  refine zT.ite (fun _ => ?_) (fun _ => ?_)
  · exact zT.gu g1 (law_t hI (x_row _ hX) (fun t hM => m_row _ hM) (fun y hy => hgo y _ _ (by omega) hy))
  exact hgo z a T (by omega) hI
end Z99
