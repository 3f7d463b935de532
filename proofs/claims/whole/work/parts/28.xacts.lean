-- ACTS in the class
section Z28
def spk (lo : Nat → Bool) : Nat → Nat
  | 0 => 0
  | k + 1 => if lo k = true then spk lo k else spk lo k ||| 2 ^ k
theorem spk_s (lo : Nat → Bool) (k : Nat) : spk lo (k + 1) = if lo k = true then spk lo k else spk lo k ||| 2 ^ k := rfl
theorem spk_t (lo : Nat → Bool) (k i : Nat) : (spk lo k).testBit i = (decide (i < k) && !lo i) := by
  induction k with
  | zero => simp [spk]
  | succ k ih =>
    rw [spk_s]
    by_cases h : lo k = true
    · rw [if_pos h, ih]
      by_cases e : i = k
      · subst e; simp [h]
      · have : (i < k + 1) ↔ (i < k) := by omega
        simp [this]
    · rw [if_neg h, Nat.testBit_or, ih, tb2]
      by_cases e : k = i
      · subst e
        have h' : lo k = false := by cases q : lo k <;> simp_all
        simp [h']
      · have : (i < k + 1) ↔ (i < k) := by omega
        simp [e, this]
theorem spk_lt (lo : Nat → Bool) (k : Nat) : spk lo k < 2 ^ k := lt_two_pow_of (fun i hi => by rw [spk_t]; simp; intro h; omega)
/-- what is open where and what has been opened, in the class -/
def XA (s : ZSt) (nb : Nat) (D : ZD) (lim opn : Nat → Int32) (rm f : Nat → Nat) (st : Nat) : Prop :=
  XK s nb D rm st ∧ (∀ b, b < nb → gi s (300 + b) 3 = lim b) ∧ (∀ b, b < 12 → gi s (300 + b) 4 = opn b) ∧ gl s 1 8 = lN (en f) ∧ okF nb f
def loo (lim opn : Nat → Int32) : Nat → Bool := fun b => decide (opn b < lim b)
section
variable {n nb st : Nat} {D : ZD} {lim opn : Nat → Int32} {rm f : Nat → Nat} {s : ZSt}
theorem XA.S (h : XA s nb D lim opn rm f st) : okS f := h.2.2.2.2.S h.1.1.2.1
theorem XA.fr (h : XA s nb D lim opn rm f st) {u : ZSt} (hE : zE pmb s u) (hK : XK u nb D rm st) : XA u nb D lim opn rm f st := by
  obtain ⟨a, b, c, d, e⟩ := h
  have hnb := a.1.2.1
  refine ⟨hK, fun k hk => ?_, fun k hk => ?_, by rw [hE.l (o := 1) rfl]; exact d, e⟩
  · rw [hE.i (by simp [pmb]; omega)]; exact b k hk
  · rw [hE.i (by simp [pmb]; omega)]; exact c k hk
theorem t_spent (hn : 12 < n) (h : XA s nb D lim opn rm f st) : f_T_spent n s = some (nI (spk (loo lim opn) nb)) := by
  obtain ⟨hK, hl, ho, hw, hF⟩ := h
  have h3 := hK.1.1
  have hnb := hK.1.2.1
  apply zT.eq
  unfold f_T_spent
  refine zT.cnt 12 (fun k x => k ≤ nb ∧ x = (nI (spk (loo lim opn) k), nI k)) hn ⟨Nat.zero_le _, rfl⟩ ?_
  rintro j k _ hk ⟨hkr, rfl⟩ hj
  dsimp only
  rw [h3]
  refine zT.ite (fun h => ?_) (fun h => ?_)
  · rw [nI_leI (by omega) (by omega)] at h
    have e : k = nb := by omega
    subst e
    exact zT.ret rfl
  · rw [nI_leI (by omega) (by omega)] at h
    refine zT.gu (inb_n (by omega) (by decide)) ?_
    rw [ra_b (by omega), ho k (by omega), hl k (by omega)]
    refine zT.ln (fun x hx => zT.ltS ?_)
    rw [nI_1]
    refine hj (by omega) _ ⟨by omega, ?_⟩
    rw [hx, spk_s]
    unfold loo
    by_cases q : opn k < lim k
    · rw [if_pos q, if_pos (decide_eq_true q)]
    · rw [if_neg q, if_neg (by simpa using q), shI_n (by omega), nI_or]
theorem x_tableOf {b : Nat} (hn : 3 < n) (hS : okS f) (hb : b < 32) : f_X_tableOf n (lN (en f)) (nI b) = some (tI (tof f b)) := by
  apply zT.eq
  unfold f_X_tableOf
  refine zT.cnt 3 (fun k x => x = nI k ∧ ∀ u, u < k → (f u).testBit b = false) hn ⟨rfl, fun u h => absurd h (Nat.not_lt_zero _)⟩ ?_
  rintro j k _ hk ⟨rfl, hl⟩ hj
  refine zT.ite (fun h => ?_) (fun h => ?_)
  · rw [show (3 : Int32) = nI 3 from rfl, nI_leI (by omega) (by omega)] at h
    have e : k = 3 := by omega
    subst e
    exact zT.ret (by rw [tof_last hl]; rfl)
  · rw [show (3 : Int32) = nI 3 from rfl, nI_leI (by omega) (by omega)] at h
    have hk3 : k < 3 := by omega
    have hlt := okS_t hS hk3
    rw [on_e hS hk3]
    refine zT.ite (fun hc => ?_) (fun hc => ?_)
    · rw [bit0 (by omega) hb] at hc
      refine zT.ltS ?_
      rw [nI_1]
      refine hj hk3 _ ⟨rfl, fun u hu => ?_⟩
      by_cases e : u = k
      · subst e; exact hc
      · exact hl u (by omega)
    · rw [bit0 (by omega) hb] at hc
      have hc : (f k).testBit b = true := by
        cases q : (f k).testBit b
        · exact absurd q hc
        · rfl
      exact zT.ret (by rw [tof_first hl hk3 hc, tI_lt hk3])
def ktb (kind : Nat) : Nat := if kind < 3 then kind else kind - 4
def pos (D : ZD) (nb : Nat) (rm f : Nat → Nat) (sp kind : Nat) : Nat :=
  if kind = 3 then anyw f else if pcn (f (ktb kind)) < rm (ktb kind) then (if kind < 3 then ndf (ndf (mmk D (ktb kind) (f (ktb kind)) nb) (anyw f)) sp else ndf (anyw f) (f (ktb kind)) &&& mmk D (ktb kind) (f (ktb kind)) nb) else 0
theorem and3 (v w m : Int32) : ((v ^^^ (-1)) &&& (w ^^^ (-1))) &&& m = (m &&& (v ^^^ (-1))) &&& (w ^^^ (-1)) := by
  rw [Int32.and_comm, Int32.and_assoc]
theorem any_lt (hF : okF nb f) (hnb : nb ≤ 12) : anyw f < 4096 := by
  obtain ⟨h0, h1, h2⟩ := hF.S hnb
  exact Nat.or_lt_two_pow (n := 12) (Nat.or_lt_two_pow (n := 12) h0 h1) h2
theorem any_n (hF : okF nb f) : anyw f < 2 ^ nb := Nat.or_lt_two_pow (Nat.or_lt_two_pow (hF.1 0 (by decide)) (hF.1 1 (by decide))) (hF.1 2 (by decide))
set_option maxHeartbeats 2000000 in
theorem t_possible {sp kind : Nat} (hn : 60 < n) (hK : XK s nb D rm st) (hF : okF nb f) (hk : kind < 7) : zT (f_T_possible n (lN (en f)) (nI sp) (nI kind) s) (fun q => q.1 = nI (pos D nb rm f sp kind) ∧ zE pmb s q.2 ∧ XK q.2 nb D rm st) := by
  have hnb := hK.1.2.1
  have hS := hF.S hnb
  unfold f_T_possible
  refine zT.ltS ?_
  rw [any_e hS]
  unfold pos
  refine zT.ite (fun h3 => ?_) (fun h3 => ?_)
  · rw [show (3 : Int32) = nI 3 from rfl, nI_eq (by omega) (by omega)] at h3
    rw [if_pos h3]
    exact zT.ret ⟨rfl, zE.refl _ _, hK⟩
  · rw [show (3 : Int32) = nI 3 from rfl, nI_eq (by omega) (by omega)] at h3
    rw [if_neg h3]
    refine zT.ln (fun x3 hx => ?_)
    have ht : ktb kind < 3 := by unfold ktb; split <;> omega
    have hx : x3 = nI (ktb kind) := by
      rw [hx]
      unfold ktb
      by_cases q : kind < 3
      · rw [if_pos q, if_neg (show ¬ (3 : Int32) ≤ nI kind from nI_ge q (by decide))]
      · rw [if_neg q, if_pos (show (3 : Int32) ≤ nI kind from nI_le (a := 3) (by omega) (by omega)), show (4 : Int32) = nI 4 from rfl, pk_sub (by omega)]
    subst hx
    refine zT.ltS ?_
    have hft := okS_t hS ht
    have hp := pcn_le (f (ktb kind))
    refine zT.gu (inb_n ht (by decide)) ?_
    have hr := hK.2.2 _ ht
    rw [on_e hS ht, bc_n _ hft, ai_n _ _ (by omega), hr.1]
    refine zT.ite (fun hc => ?_) (fun hc => ?_)
    · rw [nI_ltI (by omega) (by omega)] at hc
      rw [if_pos hc]
      refine zT.ln (fun x7 hx7 => ?_)
      have hm : x7 &&& nI (mmk D (ktb kind) (f (ktb kind)) nb) = nI (if kind < 3 then ndf (ndf (mmk D (ktb kind) (f (ktb kind)) nb) (anyw f)) sp else ndf (anyw f) (f (ktb kind)) &&& mmk D (ktb kind) (f (ktb kind)) nb) := by
        rw [hx7]
        by_cases q : kind < 3
        · rw [if_pos q, if_neg (show ¬ (3 : Int32) ≤ nI kind from nI_ge q (by decide)), and3, nI_andn, nI_andn]; rfl
        · rw [if_neg q, if_pos (show (3 : Int32) ≤ nI kind from nI_le (a := 3) (by omega) (by omega)), nI_andn, nI_and]; rfl
      refine zT.ite (fun h0 => ?_) (fun h0 => ?_)
      · refine zT.ret ⟨?_, zE.refl _ _, hK⟩
        rw [h0] at hm
        rw [← hm]
        show (0 : Int32) = 0 &&& _
        rw [Int32.zero_and]
      · refine zT.bnT (t_mayBy hn hK ht hft) ?_
        rintro ⟨_, u⟩ ⟨rfl, hE, hK2⟩
        exact zT.ret ⟨hm, hE, hK2⟩
    · rw [nI_ltI (by omega) (by omega)] at hc
      rw [if_neg hc]
      exact zT.ret ⟨rfl, zE.refl _ _, hK⟩
theorem t_has (h3 : gi s 201 2 = nI nb) (hnb : nb ≤ 12) (x : Int32) : f_T_has x s = true ↔ ∃ b, b < nb ∧ x = nI b := by
  unfold f_T_has
  rw [h3]
  rcases nI_cases x nb (by omega) with ⟨k, hk, rfl⟩ | h | h
  · rw [if_neg (nI_pos (by omega)), if_neg (nI_ge hk (by omega))]
    exact ⟨fun _ => ⟨k, hk, rfl⟩, fun _ => rfl⟩
  · rw [if_pos h]
    exact ⟨fun e => (by cases e), fun ⟨k, hk, e⟩ => by rw [e] at h; exact absurd h (nI_pos (by omega))⟩
  · have h0 : ¬ x < 0 := fun q => absurd (Int32.lt_of_le_of_lt h q) (nI_pos (by omega))
    rw [if_neg h0, if_pos h]
    exact ⟨fun e => (by cases e), fun ⟨k, hk, e⟩ => by rw [e] at h; exact absurd h (nI_ge hk (by omega))⟩
set_option maxHeartbeats 2000000 in
theorem t_refusal {a sp : Nat} {lo : Nat → Bool} (hn : 60 < n) (hK : XK s nb D rm st) (hF : okF nb f) (hsp : sp < 4096) (hlo : ∀ b, b < nb → sp.testBit b = !lo b) (ha : a < 140) (hb : a % 20 < nb) :
    zT (f_T_refusal n (lN (en f)) (nI sp) (nI a) s) (fun q => q.1 = wy D rm f lo a ∧ zE pmb s q.2 ∧ XK q.2 nb D rm st) := by
  have h3 := hK.1.1
  have hnb := hK.1.2.1
  have hS := hF.S hnb
  have ht3 := tof_le f (a % 20)
  unfold f_T_refusal
  refine zT.ie (nI_pos (by omega)) ?_
  refine zT.ie (show ¬ (140 : Int32) ≤ nI a from nI_ge ha (by decide)) ?_
  rw [rem20 (by omega), div20 (by omega)]
  refine zT.it ((t_has h3 hnb _).mpr ⟨_, hb, rfl⟩) ?_
  refine zT.ltS (zT.ltS ?_)
  refine zT.bnE (x_tableOf (by omega) hS (by omega)) ?_
  have hr0 : ∀ v : Int32, v = wy D rm f lo a → zT (some (v, s)) (fun q => q.1 = wy D rm f lo a ∧ zE pmb s q.2 ∧ XK q.2 nb D rm st) := fun v hv => zT.ret ⟨hv, zE.refl _ _, hK⟩
  refine zT.ite (fun hk => ?_) (fun hk => ?_)
  · rw [show (3 : Int32) = nI 3 from rfl, nI_eq (by omega) (by omega)] at hk
    refine zT.ite (fun hc => ?_) (fun hc => ?_)
    · rw [tI_m1] at hc
      refine hr0 _ ?_
      unfold wy
      rw [if_neg (show ¬ a < 60 by omega), if_pos (show a < 80 by omega), if_neg hc]
    · rw [tI_m1] at hc
      refine hr0 _ ?_
      unfold wy
      rw [if_neg (show ¬ a < 60 by omega), if_pos (show a < 80 by omega), if_pos (by omega)]
  · rw [show (3 : Int32) = nI 3 from rfl, nI_eq (by omega) (by omega)] at hk
    refine zT.ln (fun x9 hx => ?_)
    have ht : tgt a < 3 := tgt_lt ha (by omega)
    have hge : (3 : Int32) ≤ nI (a / 20) ↔ ¬ a < 60 := by
      rw [show (3 : Int32) = nI 3 from rfl, nI_leI (by omega) (by omega)]; omega
    have hx : x9 = nI (tgt a) := by
      rw [hx]
      unfold tgt
      by_cases q : a < 60
      · rw [if_pos q, if_neg (fun w => hge.mp w q)]
      · rw [if_neg q, if_pos (hge.mpr q), show (4 : Int32) = nI 4 from rfl, pk_sub (by omega)]
    subst hx
    have hft := okS_t hS ht
    have hp := pcn_le (f (tgt a))
    have hr := hK.2.2 _ ht
    have place : npl D rm f (a % 20) (tgt a) = wy D rm f lo a → zT (gd (inb (nI (tgt a)) 3) (if f_J_bitCount (f_X_on (lN (en f)) (nI (tgt a))) < ai s 241 (nI (tgt a)) then bn (f_T_mayBy n (nI (tgt a)) (f_X_on (lN (en f)) (nI (tgt a))) s) (fun p14 => if (srI p14.1 (nI (a % 20)) &&& (1 : Int32)) = 0 then some ((-5 : Int32), p14.2) else some ((0 : Int32), p14.2)) else some ((-4 : Int32), s))) (fun q => q.1 = wy D rm f lo a ∧ zE pmb s q.2 ∧ XK q.2 nb D rm st) := by
      intro e
      rw [← e]
      refine zT.gu (inb_n ht (by decide)) ?_
      rw [on_e hS ht, bc_n _ hft, ai_n _ _ (by omega), hr.1]
      unfold npl
      refine zT.ite (fun hc => ?_) (fun hc => ?_)
      · rw [nI_ltI (by omega) (by omega)] at hc
        rw [if_pos hc]
        refine zT.bnT (t_mayBy hn hK ht hft) ?_
        rintro ⟨_, u⟩ ⟨rfl, hE, hK2⟩
        have hml := mmk_lt D (tgt a) (f (tgt a)) nb
        have h12 : 2 ^ nb ≤ 4096 := Nat.pow_le_pow_right (n := 2) (by decide) hnb
        dsimp only
        rw [bit_n (by omega) (by omega), mmk_t, decide_eq_true hb, Bool.true_and]
        cases hv : vmy D (a % 20) (tgt a) (f (tgt a))
        · rw [if_pos (by rfl)]
          exact zT.ret ⟨rfl, hE, hK2⟩
        · rw [if_neg (by decide)]
          exact zT.ret ⟨rfl, hE, hK2⟩
      · rw [nI_ltI (by omega) (by omega)] at hc
        rw [if_neg hc]
        exact zT.ret ⟨rfl, zE.refl _ _, hK⟩
    refine zT.jo ?_
    refine zT.ite (fun h6 => ?_) (fun h6 => ?_)
    · rw [hge] at h6
      have et : tgt a = a / 20 - 4 := by unfold tgt; rw [if_neg h6]
      refine zT.ite (fun hc => ?_) (fun hc => ?_)
      · rw [tI_m1] at hc
        refine hr0 _ ?_
        unfold wy
        rw [if_neg h6, if_neg (show ¬ a < 80 by omega), if_pos (Or.inl (by omega))]
      · rw [tI_m1] at hc
        refine zT.ite (fun hc2 => ?_) (fun hc2 => ?_)
        · rw [tI_eq ht] at hc2
          refine hr0 _ ?_
          unfold wy
          rw [if_neg h6, if_neg (show ¬ a < 80 by omega), if_pos (Or.inr (by rw [hc2, et]))]
        · rw [tI_eq ht] at hc2
          refine zT.jo (zT.it (hge.mpr h6) (place ?_))
          unfold wy
          rw [if_neg h6, if_neg (show ¬ a < 80 by omega), if_neg (by rw [← et]; omega), et]
    · rw [hge] at h6
      have h6 : a < 60 := by omega
      have et : tgt a = a / 20 := by unfold tgt; rw [if_pos h6]
      refine zT.ite (fun hc => ?_) (fun hc => ?_)
      · rw [tI_m1] at hc
        refine zT.jo (zT.ie (fun q => hge.mp q h6) ?_)
        refine zT.ite (fun hc2 => ?_) (fun hc2 => ?_)
        · rw [bit0 (by omega) (by omega), hlo _ hb] at hc2
          refine place ?_
          unfold wy
          rw [if_pos h6, if_neg hc, if_pos (by simpa using hc2), et]
        · rw [bit0 (by omega) (by omega), hlo _ hb] at hc2
          refine hr0 _ ?_
          unfold wy
          rw [if_pos h6, if_neg hc, if_neg (by simpa using hc2)]
      · rw [tI_m1] at hc
        refine hr0 _ ?_
        unfold wy
        rw [if_pos h6, if_pos (by omega)]
theorem t_refusalN {sp x : Int32} {S : Int64} (hK : XK s nb D rm st) (hx : ¬ ∃ a, a < 140 ∧ a % 20 < nb ∧ x = nI a) : f_T_refusal n S sp x s = some (-1, s) := by
  have h3 := hK.1.1
  have hnb := hK.1.2.1
  unfold f_T_refusal
  by_cases c1 : x < 0
  · rw [if_pos c1]
  · rw [if_neg c1]
    by_cases c2 : (140 : Int32) ≤ x
    · rw [if_pos c2]
    · rw [if_neg c2]
      rcases nI_cases x 140 (by decide) with ⟨a, ha, rfl⟩ | h | h
      · rw [if_neg]
        intro q
        obtain ⟨b, hb, e⟩ := (t_has h3 hnb _).mp q
        rw [rem20 (by omega), nI_eq (by omega) (by omega)] at e
        exact hx ⟨a, ha, by omega, rfl⟩
      · exact absurd h c1
      · exact absurd h c2
theorem ups_ups {α : Type} (f : Nat → α) (t : Nat) (m x : α) : ups (ups f t m) t x = ups f t x := by
  funext k
  unfold ups
  split <;> rfl
set_option maxHeartbeats 2000000 in
theorem t_after {a : Nat} (hn : 60 < n) (hK : XK s nb D rm st) (hF : okF nb f) (ha : a < 140) (hb : a % 20 < nb) :
    zT (f_T_after n (lN (en f)) (nI a) s) (fun q => q.1 = lN (en (aft D nb f a)) ∧ zE pmb s q.2 ∧ XK q.2 nb D rm st) := by
  have hnb := hK.1.2.1
  have hS := hF.S hnb
  unfold f_T_after
  rw [rem20 (by omega), div20 (by omega), shI_n (by omega)]
  refine zT.ltS (zT.ltS ?_)
  refine zT.bnE (x_tableOf (by omega) hS (by omega)) ?_
  refine zT.jnQ (fun x => x.1 = lN (en (shu D nb f (a % 20))) ∧ zE pmb s x.2 ∧ XK x.2 nb D rm st) ?_ ?_
  · rintro ⟨_, u⟩ ⟨rfl, hE, hK2⟩
    have hF2 := shu_ok (D := D) (b := a % 20) hF
    have hS2 := hF2.S hnb
    dsimp only
    unfold aft
    refine zT.ite (fun hk => ?_) (fun hk => ?_)
    · rw [show (3 : Int32) = nI 3 from rfl, nI_eq (by omega) (by omega)] at hk
      rw [if_pos (show 60 ≤ a ∧ a < 80 by omega)]
      exact zT.ret ⟨rfl, hE, hK2⟩
    · rw [show (3 : Int32) = nI 3 from rfl, nI_eq (by omega) (by omega)] at hk
      rw [if_neg (show ¬ (60 ≤ a ∧ a < 80) by omega)]
      refine zT.ln (fun x9 hx => ?_)
      have ht : tgt a < 3 := tgt_lt ha (by omega)
      have hge : (3 : Int32) ≤ nI (a / 20) ↔ ¬ a < 60 := by
        rw [show (3 : Int32) = nI 3 from rfl, nI_leI (by omega) (by omega)]; omega
      have hx : x9 = nI (tgt a) := by
        rw [hx]
        unfold tgt
        by_cases q : a < 60
        · rw [if_pos q, if_neg (fun w => hge.mp w q)]
        · rw [if_neg q, if_pos (hge.mpr q), show (4 : Int32) = nI 4 from rfl, pk_sub (by omega)]
      subst hx
      have hft := okS_t hS2 ht
      have h2b : 2 ^ (a % 20) < 2 ^ 12 := Nat.pow_lt_pow_right (by decide) (by omega)
      have hor : shu D nb f (a % 20) (tgt a) ||| 2 ^ (a % 20) < 2 ^ 12 := Nat.or_lt_two_pow hft h2b
      rw [on_e hS2 ht, nI_or, with_e hS2 ht hor]
      refine zT.bnT (t_settled hn hK2 ht (okS_up hS2 _ hor)) ?_
      rintro ⟨_, v⟩ ⟨rfl, hE3, hK3⟩
      refine zT.ret ⟨?_, hE.trans hE3, hK3⟩
      show lN _ = lN _
      rw [ups_s, ups_ups]
      rfl
  · intro j10 hj10
    refine zT.ite (fun hc => ?_) (fun hc => ?_)
    · rw [tI_m1] at hc
      refine hj10 _ ⟨?_, zE.refl _ _, hK⟩
      unfold shu
      rw [if_neg hc]
    · rw [tI_m1] at hc
      have ht := Classical.byContradiction hc
      have hft := okS_t hS ht
      have hnd : ndf (f (tof f (a % 20))) (2 ^ (a % 20)) < 4096 := Nat.lt_of_le_of_lt (ndf_le _ _) hft
      rw [tI_lt ht, on_e hS ht, nI_andn, with_e hS ht hnd]
      refine zT.bnT (t_settled hn hK ht (okS_up hS _ hnd)) ?_
      rintro ⟨_, v⟩ ⟨rfl, hE3, hK3⟩
      refine hj10 _ ⟨?_, hE3, hK3⟩
      show lN _ = lN _
      unfold shu
      rw [if_pos ht, ups_s, ups_ups]
      rfl
end
end Z28
