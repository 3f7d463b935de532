-- the line in the class; order
section Z44
def pxo : Nat → Nat → Bool := fun o _ => o == 214 || o == 215 || o == 472
theorem pxo_xo {s t : ZSt} (h : zE pxo s t) : zE pXo s t := h.mono (fun o j e => by simp [pXo, pxo] at *; omega)
theorem XX.ln {s t : ZSt} {T : Nat} {a : ZA} (h : XX s T a) (hE : zE pxo s t) : XX t T a := h.fr hE (fun o j e => by simp [qX, pxo] at *; omega)
theorem bef_le {a : ZA} {x y : Nat} (h : bef a x y) : rate a y ≤ rate a x := by
  rcases h with h | h
  · exact Int32.le_of_lt h
  · rw [h.1]; exact Int32.le_refl _
theorem zb_rule : z_isO 352 1 = true := by decide +kernel
theorem x_worthR {n r T : Nat} {s : ZSt} {a : ZA} (hn : 60 < n) (h : XX s T a) (hr : r < a.2.2.1.1) : zT (f_E_worth n 352 (f_X_on (gl s 1 8) (gi s (z_ra 205 (nI r).toNatClampNeg) 1)) (f_J_bitCount (gi s (z_ra 205 (nI r).toNatClampNeg) 3)) (gi s (z_ra 205 (nI r).toNatClampNeg) 1) s) (fun q => q.1 = rate a r ∧ zE (pst 352) s q.2) := by
  obtain ⟨hA, ⟨st, hst, hB⟩, hO⟩ := id h
  have hnr := hA.2.2.2.2.2.1
  have ht := (hA.2.2.2.2.2.2.2.1.2.2.1 r hr).2
  obtain ⟨q1, q2, q3, q4⟩ := hO.2.2.2.2.1.2.1 r hr
  rw [ra_r (by omega), q2, q4, hB.2.2.2.1, on_e hB.S ht, bc_n _ (dn12 hA hr)]
  refine (x_worth (nI (a.2.2.2.1.1 (a.2.2.2.1.2.2.2.1 r))) (nI (pcn (a.2.2.2.1.2.2.1 r))) (nI (a.2.2.2.1.2.2.2.1 r)) hn zb_rule hO.2.1.1 hO.2.1.2 hA.2.1).mono ?_
  rintro ⟨v, t⟩ ⟨hv, hE⟩
  exact ⟨hv, hE⟩
def isO (a : ZA) (k : Nat) (od : Nat → Nat) : Prop := (∀ j, j < k → od j < k) ∧ (∀ i j, i < j → j < k → bef a (od i) (od j)) ∧ (∀ r, r < k → ∃ j, j < k ∧ od j = r)
theorem isO_ins {a : ZA} {k q : Nat} {od : Nat → Nat} (h : isO a k od) (hq : q ≤ k) (h1 : q = 0 ∨ rate a k ≤ rate a (od (q - 1))) (h2 : ∀ j, q ≤ j → j < k → rate a (od j) < rate a k) : isO a (k + 1) (fun j => if j < q then od j else if j = q then k else od (j - 1)) := by
  obtain ⟨b1, b2, b3⟩ := h
  have hle : ∀ i, i < q → rate a k ≤ rate a (od i) := fun i hi => by
    rcases h1 with h1 | h1
    · omega
    · by_cases e : i = q - 1
      · rw [e]; exact h1
      · exact Int32.le_trans h1 (bef_le (b2 i (q - 1) (by omega) (by omega)))
  refine ⟨fun j hj => ?_, fun i j hij hj => ?_, fun r hr => ?_⟩
  · dsimp only
    by_cases c1 : j < q
    · rw [if_pos c1]; have := b1 j (by omega); omega
    · rw [if_neg c1]
      by_cases c2 : j = q
      · rw [if_pos c2]; omega
      · rw [if_neg c2]; have := b1 (j - 1) (by omega); omega
  · dsimp only
    by_cases c1 : j < q
    · rw [if_pos c1, if_pos (by omega)]; exact b2 i j hij (by omega)
    · rw [if_neg c1]
      by_cases c2 : j = q
      · rw [if_pos c2, if_pos (by omega)]
        have hb := b1 i (by omega)
        rcases Int32.le_iff_lt_or_eq.mp (hle i (by omega)) with w | w
        · exact Or.inl w
        · exact Or.inr ⟨w.symm, hb⟩
      · rw [if_neg c2]
        by_cases c3 : i < q
        · rw [if_pos c3]; exact b2 i (j - 1) (by omega) (by omega)
        · rw [if_neg c3]
          by_cases c4 : i = q
          · rw [if_pos c4]; exact Or.inl (h2 (j - 1) (by omega) (by omega))
          · rw [if_neg c4]; exact b2 (i - 1) (j - 1) (by omega) (by omega)
  · by_cases c : r = k
    · exact ⟨q, by omega, by dsimp only; rw [if_neg (by omega), if_pos rfl, c]⟩
    · obtain ⟨j, hj, e⟩ := b3 r (by omega)
      by_cases c1 : j < q
      · exact ⟨j, by omega, by dsimp only; rw [if_pos c1]; exact e⟩
      · exact ⟨j + 1, by omega, by dsimp only; rw [if_neg (by omega), if_neg (by omega), Nat.add_sub_cancel]; exact e⟩
set_option maxHeartbeats 1000000 in
theorem x_lineUp {n T : Nat} {s : ZSt} {a : ZA} (hn : 60 < n) (h : XX s T a) : zT (f_X_lineUp n s) (fun t => zE pxo s t ∧ XX t T a ∧ isOrd a (odr a) ∧ ∀ k, k < a.2.2.1.1 → gi t 214 k = nI (odr a k)) := by
  have hnr := h.1.2.2.2.2.2.1
  unfold f_X_lineUp
  refine zT.cnt 6 (fun k x => k ≤ a.2.2.1.1 ∧ x.1 = nI k ∧ zE pxo s x.2 ∧ (∀ r, r < k → gi x.2 215 r = rate a r) ∧ ∃ od, isO a k od ∧ ∀ j, j < k → gi x.2 214 j = nI (od j)) (by omega) ⟨Nat.zero_le _, rfl, zE.refl _ _, fun r hr => absurd hr (Nat.not_lt_zero _), fun _ => 0, ⟨fun j hj => absurd hj (Nat.not_lt_zero _), fun i j _ hj => absurd hj (Nat.not_lt_zero _), fun r hr => absurd hr (Nat.not_lt_zero _)⟩, fun r hr => absurd hr (Nat.not_lt_zero _)⟩ ?_
  rintro j k ⟨_, u⟩ hk ⟨hkn, rfl, hE, hra, od, ho, hod⟩ hj
  dsimp only at *
  have hX := h.ln hE
  rw [hX.2.2.2.2.2.2.1.1]
  refine zT.ite (fun c => ?_) (fun c => ?_)
  · rw [nI_leI (by omega) (by omega)] at c
    have e : k = a.2.2.1.1 := by omega
    subst e
    have ho' : isOrd a od := ho
    exact zT.ret ⟨hE, hX, odr_is ho', fun k hk => by rw [hod k hk, odr_eq ho' hk]⟩
  · rw [nI_leI (by omega) (by omega)] at c
    refine zT.gu (inb_n (by omega) (by decide)) ?_
    refine zT.bnT (x_worthR hn hX (r := k) (by omega)) ?_
    rintro ⟨_, w⟩ ⟨rfl, hE2⟩
    rw [sai_n _ _ _ (by omega)]
    refine zT.ln (fun s6 hs6 => ?_)
    have hE2' : zE pxo u w := hE2.mono (fun o j e => by simp [pxo, pst] at *; omega)
    have hE6 : zE pxo s s6 := by rw [hs6]; exact (hE.trans hE2').wi rfl
    have h214 : ∀ j, gi s6 214 j = gi u 214 j := by
      intro j
      rw [hs6, gi_i, if_neg (by omega)]
      exact hE2.i rfl
    have h215 : ∀ r, r < k + 1 → gi s6 215 r = rate a r := by
      intro r hr
      rw [hs6, gi_i]
      by_cases e : r = k
      · rw [if_pos ⟨rfl, e⟩, e]
      · rw [if_neg (fun q => e q.2), hE2.i rfl]; exact hra r (by omega)
    clear hs6
    refine zT.jnQ (fun x => ∃ q, q ≤ k ∧ x.1 = nI q ∧ zE (fun o _ => o == 214) s6 x.2 ∧ (∀ j, j < q → gi x.2 214 j = nI (od j)) ∧ (∀ j, q < j → j ≤ k → gi x.2 214 j = nI (od (j - 1))) ∧ (∀ j, q ≤ j → j < k → rate a (od j) < rate a k) ∧ (q = 0 ∨ rate a k ≤ rate a (od (q - 1)))) ?_ ?_
    · rintro ⟨_, v⟩ ⟨q, hq, rfl, hE3, l1, l2, l3, l4⟩
      dsimp only at *
      refine zT.gu (inb_n (by omega) (by decide)) ?_
      rw [sai_n _ _ _ (by omega)]
      refine zT.ltS (zT.ltS ?_)
      rw [nI_1]
      refine hj (by omega) _ ⟨by omega, rfl, (hE6.trans (hE3.mono (fun o j e => by simp [pxo] at *; omega))).wi rfl, fun r hr => ?_, _, isO_ins ho hq l4 l3, fun j hj => ?_⟩
      · dsimp only
        rw [gi_i, if_neg (by omega), hE3.i rfl]; exact h215 r hr
      · dsimp only
        rw [gi_i]
        by_cases c1 : j = q
        · rw [if_pos ⟨rfl, c1⟩, if_neg (by omega), if_pos c1]
        · rw [if_neg (fun w => c1 w.2), if_neg c1]
          by_cases c2 : j < q
          · rw [if_pos c2]; exact l1 j c2
          · rw [if_neg c2]; exact l2 j (by omega) (by omega)
    · intro j11 hj11
      refine zT.cnt 6 (fun c x => ∃ q, q + c = k ∧ x.1 = nI q ∧ zE (fun o _ => o == 214) s6 x.2 ∧ (∀ j, j < q → gi x.2 214 j = nI (od j)) ∧ (∀ j, q < j → j ≤ k → gi x.2 214 j = nI (od (j - 1))) ∧ (∀ j, q ≤ j → j < k → rate a (od j) < rate a k)) (by omega) ⟨k, rfl, rfl, zE.refl _ _, fun j hj => by rw [h214]; exact hod j hj, fun j h1 h2 => by omega, fun j h1 h2 => by omega⟩ ?_
      rintro j2 c' ⟨_, v⟩ hc' ⟨q, hqc, rfl, hE3, l1, l2, l3⟩ hj2
      dsimp only at *
      refine zT.ite (fun c2 => ?_) (fun c2 => ?_)
      · have e0 : q = 0 := by
          rcases Nat.eq_zero_or_pos q with e | e
          · exact e
          · exact absurd c2 (nI_nle e (by omega))
        exact hj11 _ ⟨q, by omega, rfl, hE3, l1, l2, l3, Or.inl e0⟩
      · have e0 : 0 < q := by
          rcases Nat.eq_zero_or_pos q with e | e
          · exact absurd (by rw [e]; decide) c2
          · exact e
        have hodq := ho.1 (q - 1) (by omega)
        rw [show (1 : Int32) = nI 1 from rfl, pk_sub (by omega), ai_n v 214 (k := q - 1) (by omega), l1 (q - 1) (by omega)]
        refine zT.gu (inb_n (by omega) (by decide)) (zT.gu (inb_n (by omega) (by decide)) ?_)
        rw [ai_n _ _ (by omega), ai_n _ _ (by omega), hE3.i (o := 215) rfl, hE3.i (o := 215) rfl, h215 k (by omega), h215 _ (by omega)]
        refine zT.ite (fun c3 => ?_) (fun c3 => ?_)
        · exact hj11 _ ⟨q, by omega, rfl, hE3, l1, l2, l3, Or.inr c3⟩
        · have c3 := Int32.not_le.mp c3
          refine zT.gu (inb_n (by omega) (by decide)) ?_
          rw [sai_n _ _ _ (by omega)]
          refine zT.ltS (zT.ltS ?_)
          have e1 : nI q + (-1) = nI (q - 1) := by rw [← pk_m1 (q - 1), Nat.sub_add_cancel e0]
          have e2 : nI q + -nI 1 = nI (q - 1) := e1
          rw [e2]
          refine hj2 (by omega) _ ⟨q - 1, by omega, rfl, hE3.wi rfl, fun j hj => ?_, fun j h1 h2 => ?_, fun j h1 h2 => ?_⟩
          · dsimp only
            rw [gi_i, if_neg (by omega)]; exact l1 j (by omega)
          · dsimp only
            rw [gi_i]
            by_cases e : j = q
            · rw [if_pos ⟨rfl, e⟩, e]
            · rw [if_neg (fun w => e w.2)]; exact l2 j (by omega) h2
          · by_cases e : j = q - 1
            · rw [e]; exact c3
            · exact l3 j (by omega) h2
-- order
noncomputable def orw (a : ZA) (k : Nat) : List Int32 := (List.range k).map (fun j => nI (odr a j))
theorem orw_s (a : ZA) (k : Nat) : orw a (k + 1) = orw a k ++ [nI (odr a k)] := by
  unfold orw
  rw [List.range_succ, List.map_append]; rfl
theorem orw_len (a : ZA) (k : Nat) : (orw a k).length = k := by unfold orw; rw [List.length_map, List.length_range]
def putR (a : ZA) (rw : List Int32) : ZA := ((a.1.1, a.1.2.1, rw), a.2)
noncomputable def sOrder (a : ZA) : Int32 × ZA := (nI a.2.2.1.1, putR a (orw a a.2.2.1.1))
theorem MA.put0 {s : ZSt} {a : ZA} (h : MA s a) : MA (si s 0 1 0) (putR a []) := h.rw (p := prm) ((zE.refl _ _).wi rfl) (fun o j e1 e2 => by simp [prm] at *; omega) (by simp) (m_rw0 s)
theorem MA.putr {s t : ZSt} {a : ZA} {rw rw' : List Int32} (h : MA s (putR a rw)) (hE : zE prm s t) (hl : rw'.length ≤ 12) (h1 : MRw t rw') : MA t (putR a rw') := MA.rw (a := putR a rw) h hE (fun o j e1 e2 => by simp [prm] at *; omega) hl h1
theorem XX.put0 {s : ZSt} {T : Nat} {a : ZA} (h : XX s T a) : XX (si s 1 13 0) T (putR a []) := by
  obtain ⟨hA, ⟨st, hst, hB⟩, hO⟩ := h
  exact XX.rw (p := prx) hA hst hB hO ((zE.refl _ _).wi rfl) (fun o j e1 e2 => by simp [prx] at *; omega) (hB.1.2.1.on rfl (fun _ => rfl) (fun _ => rfl)) (by simp) (x_rw0 s)
theorem XX.putr {s t : ZSt} {T : Nat} {a : ZA} {rw rw' : List Int32} (h : XX s T (putR a rw)) (hE : zE prx s t) (hl : rw'.length ≤ 12) (h1 : XRw t rw') : XX t T (putR a rw') := by
  obtain ⟨hA, ⟨st, hst, hB⟩, hO⟩ := h
  exact XX.rw (p := prx) (a := putR a rw) hA hst hB hO hE (fun o j e1 e2 => by simp [prx] at *; omega) (hB.1.2.1.on (hE.i rfl) (fun _ => hE.i rfl) (fun _ => hE.i rfl)) hl h1
/-- a number more of the row -/
theorem m_ent {s : ZSt} {a : ZA} {rw : List Int32} (v : Int32) (h : MA s (putR a rw)) (hl : rw.length < 12) : zT (f_M_enters v s) (fun t => zE prm s t ∧ MA t (putR a (rw ++ [v]))) := by
  refine (m_enters v h.2.2.2.2.1 (show rw.length < 20 by omega)).mono ?_
  rintro t ⟨hE, h1⟩
  exact ⟨hE, h.putr hE (by rw [List.length_append]; simp; omega) h1⟩
theorem x_tel {s : ZSt} {T : Nat} {a : ZA} {rw : List Int32} (v : Int32) (h : XX s T (putR a rw)) (hl : rw.length < 12) : zT (f_X_tell v s) (fun t => zE prx s t ∧ XX t T (putR a (rw ++ [v]))) := by
  refine (x_tell v h.2.2.2.2.1 hl).mono ?_
  rintro t ⟨hE, h1⟩
  exact ⟨hE, h.putr hE (by rw [List.length_append]; simp; omega) h1⟩
theorem m_order {n : Nat} {s : ZSt} {a : ZA} (hn : 60 < n) (h : MA s a) : zT (f_M_order n s) (mP (sOrder a).1 (sOrder a).2 s) := by
  have hnr := h.1.2.2.2.2.2.1
  unfold f_M_order
  refine zT.ln (fun s1 hs1 => ?_)
  obtain ⟨hz, hE0, h00⟩ := mz h hs1
  clear hs1
  refine zT.bnT (m_ranks hn hz) ?_
  rintro t ⟨hE, hM, ho, hod⟩
  refine zT.ltS ?_
  refine zT.cnt 6 (fun k x => k ≤ a.2.2.1.1 ∧ x.1 = nI k ∧ zE prm t x.2 ∧ MA x.2 (putR a (orw a k))) (by omega) ⟨Nat.zero_le _, rfl, (zE.refl _ _).wi rfl, hM.put0⟩ ?_
  rintro j k ⟨_, u⟩ hk ⟨hkn, rfl, hE2, hM2⟩ hj
  dsimp only at *
  rw [hM2.2.1.1.2.2.1]
  refine zT.ite (fun c => ?_) (fun c => ?_)
  · have c : nI a.2.2.1.1 ≤ nI k := c
    rw [nI_leI (by omega) (by omega)] at c
    have e : k = a.2.2.1.1 := by omega
    subst e
    exact zT.ret ⟨rfl, (hE0.trans (pra_mo hE)).trans (prm_mo hE2), hM2⟩
  · have c : ¬ nI a.2.2.1.1 ≤ nI k := c
    rw [nI_leI (by omega) (by omega)] at c
    refine zT.gu (inb_n (by omega) (by decide)) ?_
    rw [ai_n _ _ (by omega), hE2.i (o := 125) rfl, hod k (by omega)]
    refine zT.bnT (m_ent _ hM2 (by rw [orw_len]; omega)) ?_
    rintro v ⟨hE3, hM3⟩
    refine zT.ltS ?_
    rw [nI_1]
    refine hj (by omega) _ ⟨by omega, rfl, hE2.trans hE3, ?_⟩
    rw [orw_s]; exact hM3
theorem x_order {n T : Nat} {s : ZSt} {a : ZA} (hn : 60 < n) (h : XX s T a) : zT (f_X_order n s) (xP (sOrder a).1 T (sOrder a).2 s) := by
  have hnr := h.1.2.2.2.2.2.1
  unfold f_X_order
  refine zT.bnT (x_lineUp hn h) ?_
  rintro t ⟨hE, hM, ho, hod⟩
  refine zT.ltS ?_
  refine zT.cnt 6 (fun k x => k ≤ a.2.2.1.1 ∧ x.1 = nI k ∧ zE prx t x.2 ∧ XX x.2 T (putR a (orw a k))) (by omega) ⟨Nat.zero_le _, rfl, (zE.refl _ _).wi rfl, hM.put0⟩ ?_
  rintro j k ⟨_, u⟩ hk ⟨hkn, rfl, hE2, hM2⟩ hj
  dsimp only at *
  have h7 : gi u 1 7 = nI a.2.2.1.1 := hM2.2.2.2.2.2.2.1.1
  rw [h7]
  refine zT.ite (fun c => ?_) (fun c => ?_)
  · rw [nI_leI (by omega) (by omega)] at c
    have e : k = a.2.2.1.1 := by omega
    subst e
    exact zT.ret ⟨rfl, (pxo_xo hE).trans (prx_xo hE2), hM2⟩
  · rw [nI_leI (by omega) (by omega)] at c
    refine zT.gu (inb_n (by omega) (by decide)) ?_
    rw [ai_n _ _ (by omega), hE2.i (o := 214) rfl, hod k (by omega)]
    refine zT.bnT (x_tel _ hM2 (by rw [orw_len]; omega)) ?_
    rintro v ⟨hE3, hM3⟩
    refine zT.ltS ?_
    rw [nI_1]
    refine hj (by omega) _ ⟨by omega, rfl, hE2.trans hE3, ?_⟩
    rw [orw_s]; exact hM3
end Z44
