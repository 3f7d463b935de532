-- BOOKS in the class: what may be, kept; settling; acts
section Z25
def codeX (s : ZSt) (o : Nat) (l : List Int32) : Prop := gi s o 2 = nI l.length ∧ ∀ k, k < l.length → gi s (o + 80) k = xph (lF l k)
def RXc (s : ZSt) (nb : Nat) (D : ZD) : Prop :=
  gi s 201 2 = nI nb ∧ nb ≤ 12 ∧ (∀ b, b < nb → codeX s (320 + b) (D.1 b) ∧ codeX s (340 + b) (D.2.1 b) ∧ wfL (D.1 b) ∧ wfL (D.2.1 b) ∧ gi s (300 + b) 2 = nI (D.2.2.1 b) ∧ D.2.2.1 b ≤ 6 ∧ gi s (300 + b) 5 = nI (D.2.2.2 b) ∧ D.2.2.2 b ≤ 6)
def XC (s : ZSt) (nb : Nat) (D : ZD) (st : Nat) : Prop :=
  gi s 201 5 = nI st ∧ st < 2 ^ 30 ∧ ∀ i, i < 12288 → ∃ v, v ≤ st ∧ gi s 244 i = nI v ∧ (v = st → gi s 243 i = nI (mmk D (i / 4096) (i % 4096) nb))
def XK (s : ZSt) (nb : Nat) (D : ZD) (rm : Nat → Nat) (st : Nat) : Prop := RXc s nb D ∧ XC s nb D st ∧ ∀ t, t < 3 → gi s 241 t = nI (rm t) ∧ rm t ≤ 6
def p475 : Nat → Nat → Bool := fun o _ => decide (440 ≤ o) && decide (o < 475)
def pmb : Nat → Nat → Bool := fun o _ => o == 243 || o == 244 || (decide (440 ≤ o) && decide (o < 475))
/-- what may change without harm to XK's books and rooms -/
def noX (p : Nat → Nat → Bool) : Prop := p 201 2 = false ∧ (∀ b, b < 12 → p (320 + b) 2 = false ∧ p (340 + b) 2 = false ∧ p (300 + b) 2 = false ∧ p (300 + b) 5 = false ∧ (∀ k, p (400 + b) k = false) ∧ (∀ k, p (420 + b) k = false)) ∧ (∀ t, p 241 t = false)
theorem codeX.on {s t : ZSt} {o : Nat} {l : List Int32} (h : codeX s o l) (h1 : gi t o 2 = gi s o 2) (h2 : ∀ k, gi t (o + 80) k = gi s (o + 80) k) : codeX t o l :=
  ⟨by rw [h1]; exact h.1, fun k hk => by rw [h2]; exact h.2 k hk⟩
theorem RXc.fr {p : Nat → Nat → Bool} {s t : ZSt} {nb : Nat} {D : ZD} (h : RXc s nb D) (hE : zE p s t) (hp : noX p) : RXc t nb D := by
  obtain ⟨a, b, c⟩ := h
  refine ⟨by rw [hE.i hp.1]; exact a, b, fun k hk => ?_⟩
  obtain ⟨c1, c2, c3, c4, c5, c6, c7, c8⟩ := c k hk
  obtain ⟨q1, q2, q3, q4, q5, q6⟩ := hp.2.1 k (by omega)
  refine ⟨c1.on (hE.i q1) (fun j => ?_), c2.on (hE.i q2) (fun j => ?_), c3, c4, by rw [hE.i q3]; exact c5, c6, by rw [hE.i q4]; exact c7, c8⟩
  · rw [show 320 + k + 80 = 400 + k by omega]; exact hE.i (q5 j)
  · rw [show 340 + k + 80 = 420 + k by omega]; exact hE.i (q6 j)
theorem XC.on {s t : ZSt} {nb : Nat} {D : ZD} {st : Nat} (h : XC s nb D st) (h1 : gi t 201 5 = gi s 201 5) (h2 : ∀ i, gi t 244 i = gi s 244 i) (h3 : ∀ i, gi t 243 i = gi s 243 i) : XC t nb D st := by
  obtain ⟨a, b, c⟩ := h
  refine ⟨by rw [h1]; exact a, b, fun i hi => ?_⟩
  rw [h2, h3]; exact c i hi
theorem noX_mb : noX pmb := by
  refine ⟨rfl, fun b hb => ⟨?_, ?_, ?_, ?_, fun k => ?_, fun k => ?_⟩, fun t => rfl⟩ <;> simp [pmb] <;> omega
theorem noX_475 : noX p475 := by
  refine ⟨rfl, fun b hb => ⟨?_, ?_, ?_, ?_, fun k => ?_, fun k => ?_⟩, fun t => rfl⟩ <;> simp [p475] <;> omega
theorem zb_B : ∀ b, b < 12 → z_isO (300 + b) 0 = true := by decide +kernel
theorem zb_1 : ∀ b, b < 12 → z_isO (320 + b) 1 = true := by decide +kernel
theorem zb_2 : ∀ b, b < 12 → z_isO (340 + b) 1 = true := by decide +kernel
theorem ra_b {b : Nat} (h : b < 2 ^ 31) : z_ra 240 (nI b).toNatClampNeg = 300 + b := by rw [nI_clamp h]; rfl
theorem ra_r {b : Nat} (h : b < 2 ^ 31) : z_ra 205 (nI b).toNatClampNeg = 500 + b := by rw [nI_clamp h]; rfl
theorem ra_k {b : Nat} (h : b < 2 ^ 31) : z_ra 206 (nI b).toNatClampNeg = 510 + b := by rw [nI_clamp h]; rfl
theorem b_isLater {s : ZSt} {nb b : Nat} {D : ZD} (h : RXc s nb D) (hb : b < nb) : f_B_isLater (300 + b) s = some (lat D b) := by
  obtain ⟨h3, hnb, hB⟩ := h
  obtain ⟨_, _, _, _, hw, hw6, hr, hr6⟩ := hB b hb
  apply zT.eq
  unfold f_B_isLater
  refine zT.gu (zb_B b (by omega)) ?_
  rw [hw, hr]
  refine zT.jo ?_
  unfold lat
  refine zT.ite (fun h => ?_) (fun h => ?_)
  · refine zT.ret ?_
    have : D.2.2.1 b = 0 := by
      rcases Nat.eq_zero_or_pos (D.2.2.1 b) with e | e
      · exact e
      · exact absurd h (nI_nle e (by omega))
    rw [this]; simp
  · have h0 : 0 < D.2.2.1 b := by
      rcases Nat.eq_zero_or_pos (D.2.2.1 b) with e | e
      · exact absurd (by rw [e]; decide) h
      · exact e
    refine zT.ite (fun h => ?_) (fun h => ?_)
    · rw [nI_ltI (by omega) (by omega)] at h
      refine zT.ret ?_
      symm
      rw [decide_eq_false_iff_not]; omega
    · rw [nI_ltI (by omega) (by omega)] at h
      refine zT.ret ?_
      symm
      rw [decide_eq_true_eq]; omega
/-- a book's condition, worked out -/
theorem x_val {n nb b t set : Nat} {D : ZD} {s : ZSt} {v : Int32} {α : Type} {f : Int32 × ZSt → Option α} {P : α → Prop} (hn : 60 < n) (h : RXc s nb D) (hb : b < nb) (hv : v = nI (D.2.2.2 b))
    (k : ∀ u, zE p475 s u → zT (f (val D b t set, u)) P) :
    zT (bn (f_B_condition (300 + b) s) (fun p12 => gd (z_isO p12 1) (bn (f_E_worth n p12 (nI set) v (nI t) s) f))) P := by
  have h' := h
  obtain ⟨h3, hnb, hB⟩ := h
  obtain ⟨hc1, hc2, w1, w2, hw, hw6, hr, hr6⟩ := hB b hb
  subst hv
  have st : ∀ o u, 320 ≤ o → o < 352 → zE (pst o) s u → zE p475 s u := fun o u ho ho2 hE => hE.mono (fun a j e => by
    simp [p475, pst] at *
    omega)
  unfold f_B_condition
  rw [show 300 + b + 20 = 320 + b by omega, show 300 + b + 40 = 340 + b by omega]
  refine zT.bi (zT.gu (zb_B b (by omega)) (zT.bnE (b_isLater h' hb) ?_))
  unfold val cnd at k
  cases hl : lat D b
  · rw [hl] at k
    refine zT.ret ?_
    refine zT.gu (zb_1 b (by omega)) ?_
    refine zT.bnT (x_worth (o := 320 + b) (nI set) (nI (D.2.2.2 b)) (nI t) hn (zb_1 b (by omega)) hc1.1 hc1.2 w1) ?_
    rintro ⟨a, u⟩ ⟨rfl, hE⟩
    exact k u (st _ u (by omega) (by omega) hE)
  · rw [hl] at k
    refine zT.ret ?_
    refine zT.gu (zb_2 b (by omega)) ?_
    refine zT.bnT (x_worth (o := 340 + b) (nI set) (nI (D.2.2.2 b)) (nI t) hn (zb_2 b (by omega)) hc2.1 hc2.2 w2) ?_
    rintro ⟨a, u⟩ ⟨rfl, hE⟩
    exact k u (st _ u (by omega) (by omega) hE)
theorem le_mb {s t : ZSt} (h : zE p475 s t) : zE pmb s t := h.mono (fun a j e => by simp [p475, pmb] at *; omega)
set_option maxHeartbeats 4000000 in
theorem t_mayBy {n nb t set st : Nat} {D : ZD} {rm : Nat → Nat} {s : ZSt} (hn : 60 < n) (h : XK s nb D rm st) (ht : t < 3) (hs : set < 4096) :
    zT (f_T_mayBy n (nI t) (nI set) s) (fun q => q.1 = nI (mmk D t set nb) ∧ zE pmb s q.2 ∧ XK q.2 nb D rm st) := by
  have h' := h
  obtain ⟨hR, hC, hrm⟩ := h
  have hR' := hR
  obtain ⟨h3, hnb, hB⟩ := hR
  have hi : t * 4096 + set < 12288 := by omega
  have e1 : (t * 4096 + set) / 4096 = t := by omega
  have e2 : (t * 4096 + set) % 4096 = set := by omega
  obtain ⟨v, hv, hk, hm⟩ := hC.2.2 _ hi
  have h30 := hC.2.1
  unfold f_T_mayBy
  refine zT.ltS ?_
  rw [show (4096 : Int32) = nI 4096 from rfl, nI_mulL, nI_add]
  refine zT.gu (inb_n hi (by decide)) ?_
  refine zT.jnQ (fun x3 => gi x3 243 (t * 4096 + set) = nI (mmk D t set nb) ∧ zE pmb s x3 ∧ XK x3 nb D rm st) ?_ ?_
  · rintro x ⟨q1, q2, q3⟩
    refine zT.ret ⟨?_, q2, q3⟩
    show ai x 243 (nI (t * 4096 + set)) = _
    rw [ai_n _ _ (by omega), q1]
  · intro j4 hj4
    rw [ai_n _ _ (by omega), hk, hC.1]
    refine zT.ite (fun hc => ?_) (fun hc => ?_)
    · rw [nI_eq (by omega) (by omega)] at hc
      rw [e1, e2] at hm
      exact hj4 s ⟨hm hc, zE.refl _ _, h'⟩
    · refine zT.cnt 12 (fun b x => b ≤ nb ∧ x.1 = nI (mmk D t set b) ∧ x.2.1 = nI b ∧ zE p475 s x.2.2) (by omega) ⟨Nat.zero_le _, rfl, rfl, zE.refl _ _⟩ ?_
      rintro j b ⟨_, _, u⟩ hb12 ⟨hb, rfl, rfl, hE⟩ hj
      dsimp only at *
      rw [hE.i (o := 201) rfl, h3]
      refine zT.ite (fun hcc => ?_) (fun hcc => ?_)
      · rw [nI_leI (by omega) (by omega)] at hcc
        have e : b = nb := by omega
        subst e
        refine zT.ltS ?_
        rw [sai_n _ _ _ (by omega)]
        refine zT.ltS ?_
        rw [sai_n _ _ _ (by omega)]
        have e5 : gi (si u 243 (t * 4096 + set) (nI (mmk D t set b))) 201 5 = nI st := by
          rw [gi_i, if_neg (by omega), hE.i (o := 201) rfl, hC.1]
        rw [e5]
        refine hj4 _ ⟨?_, ((le_mb hE).wi rfl).wi rfl, hR'.fr (((le_mb hE).wi rfl).wi rfl) noX_mb, ⟨?_, hC.2.1, fun i hi => ?_⟩, fun t' ht' => ?_⟩
        · rw [gi_i, if_neg (by omega), gi_i, if_pos ⟨rfl, rfl⟩]
        · rw [gi_i, if_neg (by omega)]; exact e5
        · by_cases ei : i = t * 4096 + set
          · subst ei
            refine ⟨st, Nat.le_refl _, ?_, fun _ => ?_⟩
            · rw [gi_i, if_pos ⟨rfl, rfl⟩]
            · rw [gi_i, if_neg (by omega), gi_i, if_pos ⟨rfl, rfl⟩, e1, e2]
          · obtain ⟨v', q1, q2, q3⟩ := hC.2.2 i hi
            refine ⟨v', q1, ?_, fun e => ?_⟩
            · rw [gi_i, if_neg (by omega), gi_i, if_neg (by omega), hE.i (o := 244) rfl, q2]
            · rw [gi_i, if_neg (by omega), gi_i, if_neg (by omega), hE.i (o := 243) rfl, q3 e]
        · rw [gi_i, if_neg (by omega), gi_i, if_neg (by omega), hE.i (o := 241) rfl]
          exact hrm t' ht'
      · rw [nI_leI (by omega) (by omega)] at hcc
        refine zT.gu (inb_n (by omega) (by decide)) ?_
        rw [ra_b (by omega)]
        have hRu := hR'.fr hE noX_475
        refine x_val hn hRu (by omega) (hRu.2.2 b (by omega)).2.2.2.2.2.2.1 ?_
        intro u2 hE2
        have fin : ∀ x : Int32, x = nI (mmk D t set (b + 1)) → zT (lt x (fun x15 => lt (nI b + (1 : Int32)) (fun v16 => j (x15, v16, u2)))) (fun q => q.1 = nI (mmk D t set nb) ∧ zE pmb s q.2 ∧ XK q.2 nb D rm st) := by
          rintro _ rfl
          refine zT.ltS (zT.ltS ?_)
          rw [nI_1]
          exact hj (by omega) _ ⟨by omega, rfl, rfl, hE.trans hE2⟩
        apply fin
        show (if val D b t set = 0 then nI (mmk D t set b) else nI (mmk D t set b) ||| shI 1 (nI b)) = _
        rw [mmk_s]
        unfold vmy
        by_cases hq : val D b t set = 0
        · rw [if_pos hq, if_neg (by simp [hq])]
        · rw [if_neg hq, if_pos (decide_eq_true hq), shI_n (by omega), nI_or]
set_option maxHeartbeats 4000000 in
theorem t_settled {n nb t st : Nat} {D : ZD} {rm : Nat → Nat} {s : ZSt} {f : Nat → Nat} (hn : 60 < n) (h : XK s nb D rm st) (ht : t < 3) (hf : okS f) :
    zT (f_T_settled n (lN (en f)) (nI t) s) (fun q => q.1 = lN (en (ups f t (sto (fun x => mmk D t x nb) (f t)))) ∧ zE pmb s q.2 ∧ XK q.2 nb D rm st) := by
  have hft : f t < 4096 := by
    obtain ⟨h0, h1, h2⟩ := hf
    rcases (show t = 0 ∨ t = 1 ∨ t = 2 by omega) with rfl | rfl | rfl <;> assumption
  have hM := fun k => Nat.lt_of_le_of_lt (stl_le (fun x => mmk D t x nb) (f t) k) hft
  unfold f_T_settled
  refine zT.ltS ?_
  rw [on_e hf ht]
  refine zT.bnT (t_mayBy hn h ht hft) ?_
  rintro ⟨_, u⟩ ⟨rfl, hE, hK⟩
  refine zT.ltS ?_
  rw [nI_and]
  refine zT.jnQ (fun x4 => x4.1 = nI (sto (fun x => mmk D t x nb) (f t)) ∧ zE pmb s x4.2 ∧ XK x4.2 nb D rm st) ?_ ?_
  · rintro ⟨_, v⟩ ⟨rfl, q2, q3⟩
    refine zT.ret ⟨?_, q2, q3⟩
    exact with_e hf ht (sto_lt hft)
  · intro j5 hj5
    refine zT.cnt 12 (fun k x => x.1 = nI (stl (fun x => mmk D t x nb) (f t) k) ∧ x.2.1 = nI (stl (fun x => mmk D t x nb) (f t) (k + 1)) ∧ x.2.2.1 = nI k ∧ zE pmb s x.2.2.2 ∧ XK x.2.2.2 nb D rm st) (by omega) ⟨rfl, rfl, rfl, hE, hK⟩ ?_
    rintro j k ⟨_, _, _, v⟩ hk ⟨rfl, rfl, rfl, hE2, hK2⟩ hj
    dsimp only at *
    have b1 := hM k
    have b2 := hM (k + 1)
    refine zT.ite (fun hc => ?_) (fun hc => ?_)
    · rw [nI_eq (by omega) (by omega)] at hc
      refine hj5 _ ⟨?_, hE2, hK2⟩
      rw [sto_at hft hk hc]
    · refine zT.ite (fun h12 => ?_) (fun h12 => ?_)
      · have e : k = 12 := by
          rw [show (12 : Int32) = nI 12 from rfl, nI_leI (by omega) (by omega)] at h12; omega
        subst e
        exact hj5 _ ⟨rfl, hE2, hK2⟩
      · rw [show (12 : Int32) = nI 12 from rfl, nI_leI (by omega) (by omega)] at h12
        refine zT.bnT (t_mayBy hn hK2 ht b2) ?_
        rintro ⟨_, w⟩ ⟨rfl, hE3, hK3⟩
        refine zT.ltS ?_
        rw [nI_and]
        refine zT.ltS ?_
        rw [nI_1]
        exact hj (by omega) _ ⟨rfl, rfl, rfl, hE2.trans hE3, hK3⟩
end Z25
