-- lost
section Z78
def cSh (a : ZA) (b : Nat) : Nat := en (shu (aD a) a.2.1.1 a.2.2.2.1.1 b)
def opA (a : ZA) (b : Nat) : Bool := (anyw a.2.2.2.1.1).testBit b
noncomputable def sAf (a : ZA) (b : Nat) : Option (ZQ × (Nat → List Nat)) := sch (sucA a wal) (cSh a b)
def lbB (B : Option (ZQ × (Nat → List Nat))) (b : Nat) : Bool := match B with
  | none => false
  | some (Q, _) => !(qun Q Q.1).testBit b
noncomputable def lb (a : ZA) (b : Nat) : Bool := opA a b && lbB (sAf a b) b
noncomputable def lsr (a : ZA) : Nat → Option Nat
  | 0 => some 0
  | k + 1 => match lsr a k with
    | none => none
    | some m => if opA a k = true then (match sAf a k with
      | none => none
      | some (Q, _) => some (if (qun Q Q.1).testBit k = true then m else m ||| 2 ^ k)) else some m
theorem lsr_s (a : ZA) (k : Nat) : lsr a (k + 1) = match lsr a k with
    | none => none
    | some m => if opA a k = true then (match sAf a k with
      | none => none
      | some (Q, _) => some (if (qun Q Q.1).testBit k = true then m else m ||| 2 ^ k)) else some m := rfl
theorem lsr_none {a : ZA} {b : Nat} (h1 : opA a b = true) (h2 : sAf a b = none) : ∀ k, b < k → lsr a k = none := by
  intro k
  induction k with
  | zero => intro h; exact absurd h (Nat.not_lt_zero _)
  | succ k ih =>
    intro h
    rw [lsr_s]
    by_cases e : b = k
    · subst e
      rw [h1, h2]
      cases lsr a b <;> rfl
    · rw [ih (by omega)]
theorem lsr_some {a : ZA} : ∀ k, (∀ b, b < k → opA a b = true → sAf a b ≠ none) → lsr a k = some (mkm (lb a) k) := by
  intro k
  induction k with
  | zero => intro _; rfl
  | succ k ih =>
    intro h
    have hlb : lb a k = (opA a k && lbB (sAf a k) k) := rfl
    rw [lsr_s, ih (fun b hb => h b (by omega)), mkm_s, hlb]
    dsimp only
    by_cases o : opA a k = true
    · rw [if_pos o, o, Bool.true_and]
      have := h k (by omega) o
      cases q : sAf a k with
      | none => exact absurd q this
      | some x =>
        obtain ⟨Q, ed⟩ := x
        show some (if (qun Q Q.1).testBit k = true then _ else _) = some (if (!(qun Q Q.1).testBit k) = true then _ else _)
        cases (qun Q Q.1).testBit k <;> rfl
    · have o : opA a k = false := by cases w : opA a k; rfl; exact absurd w o
      rw [o, Bool.false_and, if_neg (by decide), if_neg (by decide)]
noncomputable def sLost (a : ZA) : Int32 × ZA := match lsr a a.2.1.1 with
  | none => (-3, a)
  | some m => (nI m, a)
theorem lsr_lt {a : ZA} : ∀ k m, lsr a k = some m → m < 2 ^ k := by
  intro k m h
  by_cases q : ∀ b, b < k → opA a b = true → sAf a b ≠ none
  · rw [lsr_some k q] at h
    cases h
    exact mkm_lt _ _
  · exfalso
    apply q
    intro b hb ho hn
    rw [lsr_none ho hn k hb] at h
    cases h
-- shutting all
theorem sac_mem {a : ZA} {c k : Nat} (h : sok a c k = true) : ∀ m, k < m → (k, en (aft (aD a) a.2.1.1 (dcd c) k)) ∈ sac a c m := by
  intro m
  induction m with
  | zero => intro h; exact absurd h (Nat.not_lt_zero _)
  | succ m ih =>
    intro hk
    rw [sac_s]
    by_cases e : k = m
    · subst e
      rw [if_pos h]
      exact List.mem_append_right _ (List.mem_singleton.mpr rfl)
    · split
      · exact List.mem_append_left _ (ih (by omega))
      · exact ih (by omega)
theorem aft_60 {D : ZD} {nb b : Nat} {f : Nat → Nat} (hb : b < 20) : aft D nb f (60 + b) = shu D nb f b := by
  unfold aft
  rw [if_pos (by omega), show (60 + b) % 20 = b by omega]
theorem rea_0 {a : ZA} (hnb : a.2.1.1 ≤ 12) : ∀ m c, dcd c 0 + dcd c 1 + dcd c 2 < m → okF a.2.1.1 (dcd c) → c < 2 ^ 36 → rea (sucA a wal) c 0 := by
  intro m
  induction m with
  | zero => intro c h; exact absurd h (Nat.not_lt_zero _)
  | succ m ih =>
    intro c hm hF hc
    by_cases q : anyw (dcd c) = 0
    · have e : c = 0 := by
        have : dcd c 0 = 0 ∧ dcd c 1 = 0 ∧ dcd c 2 = 0 := by
          unfold anyw at q
          rw [or0, or0] at q
          exact ⟨q.1.1, q.1.2, q.2⟩
        rw [← en_dcd hc]
        unfold en
        rw [this.1, this.2.1, this.2.2]; rfl
      rw [e]
      exact rea.refl _ _
    · obtain ⟨b, hb⟩ := nz_bit q
      have h3 : tof (dcd c) b < 3 := any_bit.mp hb
      have hbn : b < a.2.1.1 := by
        rcases Nat.lt_or_ge b a.2.1.1 with w | w
        · exact w
        · rw [tb_big (any_n hF) w] at hb; cases hb
      have hs : sok a c (60 + b) = true := by
        rw [← posA_bit (kd := 3) hF (by decide) (by omega), posA_3]; exact hb
      have hmem := sac_mem hs 140 (by omega)
      rw [sac_all hnb hF, aft_60 (by omega)] at hmem
      have hok := shu_ok (D := aD a) (b := b) hF
      have hSk := hok.S hnb
      refine rea.trans (rea.step (rea.refl _ _) hmem) (ih _ ?_ (okF_dcd hok hnb) (en_lt hSk))
      rw [dcd_en hSk (by decide), dcd_en hSk (by decide), dcd_en hSk (by decide)]
      have hlt : shu (aD a) a.2.1.1 (dcd c) b (tof (dcd c) b) < dcd c (tof (dcd c) b) := by
        unfold shu
        rw [if_pos h3, ups_s]
        refine Nat.lt_of_le_of_lt (stl_le _ _ 12) ?_
        refine Nat.lt_of_le_of_ne (ndf_le _ _) (fun e => ?_)
        have := tof_bit h3
        rw [← e, ndf_t, tb2] at this
        simp at this
      have hne : ∀ u, u ≠ tof (dcd c) b → shu (aD a) a.2.1.1 (dcd c) b u = dcd c u := fun u hu => by
        unfold shu
        rw [if_pos h3, ups_n _ _ hu]
      generalize tof (dcd c) b = t at *
      rcases (show t = 0 ∨ t = 1 ∨ t = 2 by omega) with rfl | rfl | rfl
      · rw [hne 1 (by decide), hne 2 (by decide)]; omega
      · rw [hne 0 (by decide), hne 2 (by decide)]; omega
      · rw [hne 0 (by decide), hne 1 (by decide)]; omega
theorem cSh_ok {a : ZA} (h : okA a) (b : Nat) : okF a.2.1.1 (dcd (cSh a b)) ∧ cSh a b < 2 ^ 36 := by
  have hok := shu_ok (D := aD a) (b := b) (okS_f h)
  exact ⟨okF_dcd hok h.2.2.2.1, en_lt (hok.S h.2.2.2.1)⟩
theorem cSh_0 {a : ZA} (h : okA a) (b : Nat) : rea (sucA a wal) (cSh a b) 0 := by
  obtain ⟨h1, h2⟩ := cSh_ok h b
  exact rea_0 h.2.2.2.1 _ _ (Nat.lt_succ_self _) h1 h2
theorem qun_t (Q : ZQ) (i : Nat) : ∀ k, (qun Q k).testBit i = true ↔ ∃ j, j < k ∧ (anyw (dcd (Q.2.1 j))).testBit i = true := by
  intro k
  induction k with
  | zero => exact ⟨fun h => (by rw [show qun Q 0 = 0 from rfl, Nat.zero_testBit] at h; cases h), fun ⟨j, hj, _⟩ => absurd hj (Nat.not_lt_zero _)⟩
  | succ k ih =>
    rw [qun_s, Nat.testBit_or, Bool.or_eq_true, ih]
    constructor
    · rintro (⟨j, h1, h2⟩ | h)
      · exact ⟨j, by omega, h2⟩
      · exact ⟨k, by omega, h⟩
    · rintro ⟨j, h1, h2⟩
      by_cases e : j = k
      · subst e; exact Or.inr h2
      · exact Or.inl ⟨j, by omega, h2⟩
theorem qun_eq {suc : Nat → List (Nat × Nat)} {c d : Nat} {Q R : ZQ} {e e' : Nat → List Nat} (h1 : sch suc c = some (Q, e)) (h2 : sch suc d = some (R, e')) (hr : ∀ x, rea suc c x ↔ rea suc d x) : qun Q Q.1 = qun R R.1 := by
  obtain ⟨_, _, _, _, _, q1⟩ := sch_some h1
  obtain ⟨_, _, _, _, _, q2⟩ := sch_some h2
  apply Nat.eq_of_testBit_eq
  intro i
  rw [Bool.eq_iff_iff, qun_t, qun_t]
  constructor
  · rintro ⟨j, h1, h2⟩
    obtain ⟨k, k1, k2⟩ := (q2 _).mpr ((hr _).mp ((q1 _).mp ⟨j, h1, rfl⟩))
    exact ⟨k, k1, by rw [k2]; exact h2⟩
  · rintro ⟨j, h1, h2⟩
    obtain ⟨k, k1, k2⟩ := (q1 _).mpr ((hr _).mpr ((q2 _).mp ⟨j, h1, rfl⟩))
    exact ⟨k, k1, by rw [k2]; exact h2⟩
theorem sAf_no {a : ZA} (h : okA a) (h0 : sch (sucA a wal) 0 = none) (b : Nat) : sAf a b = none := by
  cases q : sAf a b with
  | none => rfl
  | some x =>
    exfalso
    obtain ⟨Q, ed⟩ := x
    obtain ⟨q1, _, _, _, _, q2⟩ := sch_some q
    exact big_no (sch_none h0) q1.2.1 (fun x hx => (q2 x).mpr (rea.trans (cSh_0 h b) hx))
theorem sAf_yes {a : ZA} (h : okA a) {Q0 : ZQ} {ed : Nat → List Nat} (h0 : sch (sucA a wal) 0 = some (Q0, ed)) {b : Nat} (hb : qat Q0 (cSh a b) < Q0.1) : ∃ Q e, sAf a b = some (Q, e) ∧ qun Q Q.1 = qun Q0 Q0.1 := by
  obtain ⟨q1, _, _, _, _, q2⟩ := sch_some h0
  have h1 : rea (sucA a wal) 0 (cSh a b) := (q2 _).mp (by
    rcases qat_cases Q0 (cSh a b) with ⟨g1, g2⟩ | ⟨g1, _⟩
    · exact ⟨_, g1, g2⟩
    · omega)
  have h2 := cSh_0 h b
  cases q : sAf a b with
  | none =>
    exfalso
    exact big_no (sch_none q) q1.2.1 (fun x hx => (q2 x).mpr (rea.trans h1 hx))
  | some x =>
    obtain ⟨Q, e⟩ := x
    exact ⟨Q, e, rfl, qun_eq q h0 (fun x => ⟨fun hx => rea.trans h1 hx, fun hx => rea.trans h2 hx⟩)⟩
-- the reference
theorem MA.back {s t : ZSt} {a : ZA} (h : MA s a) (hE : zE pact s t) (hg : ∀ u, u < 3 → gi t 108 u = nI (a.2.2.2.1.1 u)) : MA t a :=
  h.hl (hE.mono (fun o j w => by simp [pact, phl] at *; omega)) (MK.put h.2.1 hE hg (okS_f h.1))
theorem pact_mo {s t : ZSt} (h : zE pact s t) : zE pMo s t := h.mono (fun o j e => by simp [pMo, pact] at *; omega)
theorem m_lost {n : Nat} {s : ZSt} {a : ZA} (hn : 20000 < n) (h : MA s a) : zT (f_M_lost n s) (mP (sLost a).1 (sLost a).2 s) := by
  have hnb := h.1.2.2.2.1
  have h12 := pw_12 hnb
  have hS := (okS_f h.1).S hnb
  generalize hr : sLost a = r
  unfold sLost at hr
  unfold f_M_lost
  refine zT.ln (fun s1 hs1 => ?_)
  obtain ⟨hz, hE0, h00⟩ := mz h hs1
  clear hs1
  refine zT.bnE (m_stateNow hz.2.1.2.2.2.2.1 hS) ?_
  refine zT.cnt 12 (fun k x => k ≤ a.2.1.1 ∧ (∃ m, lsr a k = some m ∧ x.1 = nI m) ∧ x.2.1 = nI k ∧ zE pMo s x.2.2 ∧ MA x.2.2 a) (by omega) ⟨Nat.zero_le _, ⟨0, rfl, rfl⟩, rfl, hE0, hz⟩ ?_
  rintro j k ⟨_, _, u⟩ hk ⟨hkn, ⟨m, hm, rfl⟩, rfl, hE, hM⟩ hj
  dsimp only at *
  rw [hM.2.1.1.1]
  refine zT.ite (fun c => ?_) (fun c => ?_)
  · rw [nI_leI (by omega) (by omega)] at c
    have e : k = a.2.1.1 := by omega
    rw [← e, hm] at hr
    subst hr
    exact zT.ret ⟨rfl, hE, hM⟩
  · rw [nI_leI (by omega) (by omega)] at c
    have hml := lsr_lt k m hm
    have hkp : 2 ^ k < 2 ^ 12 := Nat.pow_lt_pow_right (by decide) (by omega)
    refine zT.bnE (m_tableOf (by omega) hM.2.1.2.2.2.2.1 hS (by omega)) ?_
    refine zT.jnQ (fun y => (∃ m, lsr a (k + 1) = some m ∧ y.1 = nI m) ∧ zE pMo s y.2 ∧ MA y.2 a) ?_ ?_
    · rintro ⟨_, y⟩ ⟨⟨m', q1, rfl⟩, q2, q3⟩
      rw [nI_1]
      exact zT.ltS (hj (by omega) _ ⟨by omega, ⟨m', q1, rfl⟩, rfl, q2, q3⟩)
    · intro j9 hj9
      refine zT.ite (fun c2 => ?_) (fun c2 => ?_)
      · rw [tI_pos] at c2
        have ho : opA a k = true := any_bit.mpr c2
        refine zT.bnT (m_shut (by omega) hM.2.1 (show k < a.2.1.1 by omega) c2) ?_
        rintro ⟨_, u2⟩ ⟨_, hE2, hK2⟩
        dsimp only at *
        have hok2 := hK2.2.2.2.2.2
        refine zT.bnE (m_stateNow hK2.2.2.2.2.1 (hok2.S hnb)) ?_
        refine zT.bnT (m_stands u2 (by omega) (now_lt h.1)) ?_
        rintro u3 ⟨hE3, hon⟩
        have hE23 : zE pact u u3 := hE2.trans (hE3.mono (fun o j w => by simp [pact] at *; omega))
        have hM3 : MA u3 a := hM.back hE23 (fun t ht => by rw [hon t ht, dcd_en hS ht])
        obtain ⟨g1, g2⟩ := cSh_ok h.1 k
        refine zT.bnT (m_explores hn hM3 g1 g2) ?_
        rintro ⟨w, u4⟩ ⟨hE4, hM4, hB⟩
        dsimp only at *
        have hB : meB a (w, u4) (sAf a k) := hB
        have back : ∀ t, zE (fun o _ => o == 108) u4 t → (∀ u, u < 3 → gi t 108 u = nI (dcd (en a.2.2.2.1.1) u)) → zE pMo s t ∧ MA t a := fun t hE5 hon5 => by
          have hE5' : zE pact u4 t := hE5.mono (fun o j w => by simp [pact] at *; omega)
          exact ⟨hE.trans ((pact_mo hE23).trans (hE4.trans (pact_mo hE5'))), hM4.back hE5' (fun t ht => by rw [hon5 t ht, dcd_en hS ht])⟩
        cases hq : sAf a k with
        | none =>
          rw [hq] at hB
          have hB : w = false := hB
          rw [hB]
          refine zT.ie (by decide) (zT.bnT (m_stands u4 (by omega) (now_lt h.1)) ?_)
          rintro u5 ⟨hE5, hon5⟩
          obtain ⟨z1, z2⟩ := back u5 hE5 hon5
          rw [lsr_none ho hq a.2.1.1 (by omega)] at hr
          subst hr
          exact zT.ret ⟨rfl, z1, z2⟩
        | some x =>
          obtain ⟨Q, ed⟩ := x
          rw [hq] at hB
          obtain ⟨hw, ⟨cl, sl', hMH⟩, _⟩ := hB
          have hw : w = true := hw
          rw [hw]
          refine zT.it rfl (zT.bnT (m_stands u4 (by omega) (now_lt h.1)) ?_)
          rintro u5 ⟨hE5, hon5⟩
          obtain ⟨z1, z2⟩ := back u5 hE5 hon5
          have hMH5 := hMH.fr hE5 (fun o j w => by simp at *; omega)
          have hul := qun_lt Q Q.1
          refine zT.bnE (m_everFound hn hMH5) ?_
          rw [has_n (by omega) (by omega), shI_n (by omega)]
          refine zT.ln (fun x18 hx => zT.ltS (hj9 _ ⟨⟨if (qun Q Q.1).testBit k = true then m else m ||| 2 ^ k, ?_, ?_⟩, z1, z2⟩))
          · rw [lsr_s, hm]
            dsimp only
            rw [ho, if_pos rfl, hq]
          · dsimp only
            rw [hx]
            cases (qun Q Q.1).testBit k
            · rw [if_neg (by decide), if_neg (by decide), nI_or]
            · rw [if_pos rfl, if_pos rfl, show (0 : Int32) = nI 0 from rfl, nI_or, Nat.or_zero]
      · rw [tI_pos] at c2
        have ho : opA a k = false := by
          cases w : opA a k
          · rfl
          · exact absurd (any_bit.mp w) c2
        exact hj9 _ ⟨⟨m, by rw [lsr_s, hm, ho]; rfl, rfl⟩, hE, hM⟩
end Z78
