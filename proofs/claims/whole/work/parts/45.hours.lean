-- hours
section Z45
def hst (a : ZA) (od : Nat → Nat) : Nat → Bool × ZA
  | 0 => (false, a)
  | k + 1 => ((hst a od k).1 || decide (0 < (trn (hst a od k).2 (od k)).1), aLog (trn (hst a od k).2 (od k)).2 (100 * nI (od k) + (trn (hst a od k).2 (od k)).1))
theorem hst_s (a : ZA) (od : Nat → Nat) (k : Nat) : hst a od (k + 1) = ((hst a od k).1 || decide (0 < (trn (hst a od k).2 (od k)).1), aLog (trn (hst a od k).2 (od k)).2 (100 * nI (od k) + (trn (hst a od k).2 (od k)).1)) := rfl
def aHr (a : ZA) : ZA := putS a (a.2.2.2.1.1, a.2.2.2.1.2.1, a.2.2.2.1.2.2.1, a.2.2.2.1.2.2.2.1, a.2.2.2.1.2.2.2.2.1 + 1, a.2.2.2.1.2.2.2.2.2)
noncomputable def hour (a : ZA) : Bool × ZA := ((hst a (odr a) a.2.2.1.1).1, aHr (hst a (odr a) a.2.2.1.1).2)
theorem trn_P {a : ZA} {r : Nat} (P : ZA → Prop) (h1 : ∀ b, P (afin a r b)) (h2 : ∀ k, P (aact a k)) (h3 : P a) : P (trn a r).2 := by
  unfold trn
  split
  · exact h1 _
  · split
    · exact h2 _
    · split
      · exact h2 _
      · split
        · exact h2 _
        · exact h3
theorem trn_R (a : ZA) (r : Nat) : (trn a r).2.2.2.1 = a.2.2.1 := trn_P (fun y => y.2.2.1 = a.2.2.1) (fun b => rfl) (fun k => rfl) rfl
theorem hst_R (a : ZA) (od : Nat → Nat) (k : Nat) : (hst a od k).2.2.2.1 = a.2.2.1 := by
  induction k with
  | zero => rfl
  | succ k ih =>
    rw [hst_s]
    show (trn (hst a od k).2 (od k)).2.2.2.1 = _
    rw [trn_R, ih]
theorem hour_R (a : ZA) : (hour a).2.2.2.1 = a.2.2.1 := hst_R a _ _
def pho : Nat → Nat → Bool := fun o j => o == 116 || o == 108 || o == 105 || o == 123 || o == 124 || o == 113 || o == 128 || (o == 0 && (j == 27 || j == 29))
theorem pho_mo {s t : ZSt} (h : zE pho s t) : zE pMo s t := h.mono (fun o j e => by simp [pMo, pho] at *; omega)
theorem MA.hr {s : ZSt} {a : ZA} (h : MA s a) : MA (si s 0 29 (gi s 0 29 + 1)) (aHr a) := by
  have hE : zE (fun o j => o == 0 && j == 29) s (si s 0 29 (gi s 0 29 + 1)) := (zE.refl _ _).wi rfl
  obtain ⟨hA, hC, h2, h3, h4, h5, h6, h7⟩ := h
  refine ⟨hA, MC.onC hC (fun o j e => hE.i (by simp [qC] at *; omega)), h2.fr hE ⟨rfl, fun _ => rfl⟩, MRl.fr h3 hA.2.1 hE ⟨rfl, fun _ _ => rfl⟩, h4.fr hE ⟨rfl, fun _ => rfl⟩, h5.fr hE (fun _ => ⟨rfl, rfl, rfl⟩), ⟨?_, (hE.i rfl).trans h6.2.1, h6.2.2.fr hE (fun _ => rfl)⟩, MKs.fr h7 hE (fun _ => ⟨rfl, rfl⟩)⟩
  rw [gi_i, if_pos ⟨rfl, rfl⟩, h6.1]; rfl
theorem XX.hr {s : ZSt} {T : Nat} {a : ZA} (h : XX s T a) : XX (si s 1 9 (gi s 1 9 + 1)) T (aHr a) := by
  have hE : zE (fun o j => o == 1 && j == 9) s (si s 1 9 (gi s 1 9 + 1)) := (zE.refl _ _).wi rfl
  obtain ⟨hA, ⟨st, hst, hB⟩, k1, k2, k3, k4, k5, ⟨k6, tot, k7, k8, k9⟩, k10⟩ := h
  refine ⟨hA, ⟨st, hst, XA.fr2 hB hE ⟨⟨rfl, fun b hb => ⟨by simp <;> omega, by simp <;> omega, by simp <;> omega, by simp <;> omega, fun k => by simp <;> omega, fun k => by simp <;> omega⟩, fun t => rfl⟩, rfl, fun b hb => ⟨by simp <;> omega, by simp <;> omega⟩, rfl, fun j => ⟨rfl, rfl⟩⟩⟩, k1.fr hE ⟨rfl, fun _ => rfl⟩, k2.fr hE ⟨rfl, fun _ => rfl⟩, k3.fr hE ⟨rfl, fun _ => rfl⟩, k4.fr hE (fun b hb => ⟨by simp <;> omega, by simp <;> omega⟩), k5.fr hA.2.2.2.2.2.1 hE ⟨rfl, fun r j hr => by simp <;> omega⟩, ⟨?_, tot, k7, (hE.i rfl).trans k8, k9.on (fun j => hE.i rfl)⟩, XKs.fr k10 hE (fun o j h1 h2 => by simp <;> omega)⟩
  rw [gi_i, if_pos ⟨rfl, rfl⟩, k6]; rfl
theorem m_goesHour {n : Nat} {s : ZSt} {a : ZA} (hn : 60 < n) (h : MA s a) : zT (f_M_goesHour n s) (fun q => q.1 = (hour a).1 ∧ zE pMo s q.2 ∧ MA q.2 (hour a).2) := by
  have hnr := h.1.2.2.2.2.2.1
  unfold f_M_goesHour
  refine zT.bnT (m_ranks hn h) ?_
  rintro t ⟨hE, hM, ho, hod⟩
  refine zT.cnt 6 (fun k x => k ≤ a.2.2.1.1 ∧ x.1 = (hst a (odr a) k).1 ∧ x.2.1 = nI k ∧ zE pho t x.2.2 ∧ MA x.2.2 (hst a (odr a) k).2) (by omega) ⟨Nat.zero_le _, rfl, rfl, zE.refl _ _, hM⟩ ?_
  rintro j k ⟨_, _, u⟩ hk ⟨hkn, rfl, rfl, hE2, hM2⟩ hj
  dsimp only at *
  have h9 : gi u 0 9 = nI a.2.2.1.1 := by
    have := hM2.2.1.1.2.2.1
    rw [hst_R] at this; exact this
  rw [h9]
  refine zT.ite (fun c => ?_) (fun c => ?_)
  · rw [nI_leI (by omega) (by omega)] at c
    have e : k = a.2.2.1.1 := by omega
    subst e
    refine zT.ltS (zT.ret ⟨rfl, ?_, hM2.hr⟩)
    exact (pra_mo hE).trans (pho_mo (hE2.wi rfl))
  · rw [nI_leI (by omega) (by omega)] at c
    have hr : odr a k < (hst a (odr a) k).2.2.2.1.1 := by rw [hst_R]; exact ho.1 k (by omega)
    have hr6 : odr a k < 6 := by have := ho.1 k (by omega); omega
    refine zT.gu (inb_n (by omega) (by decide)) ?_
    rw [ai_n _ _ (by omega), hE2.i (o := 125) rfl, hod k (by omega)]
    refine zT.bnT (m_does hn hM2 hr) ?_
    rintro ⟨_, v⟩ ⟨rfl, hE3, hM3⟩
    dsimp only
    rw [ai_n _ _ (by omega), hE3.i (o := 125) rfl, hE2.i (o := 125) rfl, hod k (by omega)]
    refine zT.bnT (m_notes (100 * nI (odr a k) + (trn (hst a (odr a) k).2 (odr a k)).1) hn hM3) ?_
    rintro w ⟨hE4, hM4⟩
    refine zT.ln (fun x9 hx9 => zT.ltS ?_)
    rw [nI_1]
    refine hj (by omega) _ ⟨by omega, ?_, rfl, (hE2.trans (hE3.mono (fun o j e => by simp [pho, pdo] at *; omega))).trans (hE4.mono (fun o j e => by simp [pho, pml2] at *; omega)), hM4⟩
    dsimp only
    rw [hx9, hst_s]
    dsimp only
    cases (hst a (odr a) k).1
    · rw [if_neg (by decide), Bool.false_or]
      by_cases q : (trn (hst a (odr a) k).2 (odr a k)).1 ≤ 0
      · rw [if_pos q, decide_eq_false (Int32.not_lt.mpr q)]
      · rw [if_neg q, decide_eq_true (Int32.not_le.mp q)]
    · rw [if_pos rfl, Bool.true_or]
/-- hours on end -/
noncomputable def hrn : Nat → Nat × Bool × ZA → Nat × Bool × ZA
  | 0, x => x
  | m + 1, x => if x.2.1 = true then hrn m (x.1 + 1, (hour x.2.2).1, (hour x.2.2).2) else x
theorem hrn_f (m : Nat) {x : Nat × Bool × ZA} (h : x.2.1 = false) : hrn m x = x := by
  cases m with
  | zero => rfl
  | succ m =>
    show (if x.2.1 = true then _ else x) = x
    rw [if_neg (by rw [h]; decide)]
theorem hrn_t (m : Nat) {x : Nat × Bool × ZA} (h : x.2.1 = true) : hrn (m + 1) x = hrn m (x.1 + 1, (hour x.2.2).1, (hour x.2.2).2) := by
  show (if x.2.1 = true then _ else x) = _
  rw [if_pos h]
def stf (a : ZA) : Nat → Nat
  | 0 => 0
  | k + 1 => if lef a k = 0 then stf a k ||| 2 ^ k else stf a k
theorem stf_s (a : ZA) (k : Nat) : stf a (k + 1) = if lef a k = 0 then stf a k ||| 2 ^ k else stf a k := rfl
theorem stf_R (a : ZA) (rw : List Int32) (k : Nat) : stf (putR a rw) k = stf a k := by
  induction k with
  | zero => rfl
  | succ k ih =>
    rw [stf_s, stf_s, ih]; rfl
noncomputable def sHours (x : Int32) (a : ZA) : Int32 × ZA :=
  if 0 ≤ x ∧ x ≤ 50 then (nI (hrn x.toNatClampNeg (0, true, a)).1, putR (hrn x.toNatClampNeg (0, true, a)).2.2 [nI (!(hrn x.toNatClampNeg (0, true, a)).2.1).toNat, nI (stf (hrn x.toNatClampNeg (0, true, a)).2.2 (hrn x.toNatClampNeg (0, true, a)).2.2.2.2.1.1)]) else (-1, a)
theorem in050 (v : Int32) : f_M_in v.toInt64 (0 : Int64) (50 : Int64) = decide (0 ≤ v ∧ v ≤ 50) := in_i v 0 50
theorem m_hours {n : Nat} {s : ZSt} {a : ZA} (x : Int32) (hn : 60 < n) (h : MA s a) : zT (f_M_hours n x s) (mP (sHours x a).1 (sHours x a).2 s) := by
  have hnr := h.1.2.2.2.2.2.1
  generalize hr : sHours x a = r
  unfold sHours at hr
  unfold f_M_hours
  refine zT.ln (fun s1 hs1 => ?_)
  obtain ⟨hz, hE0, h00⟩ := mz h hs1
  clear hs1
  rw [in050]
  refine zT.ite (fun c => ?_) (fun c => ?_)
  · rw [decide_eq_true_eq] at c
    rw [if_pos c] at hr
    obtain ⟨m, hm, rfl⟩ : ∃ m, m < 51 ∧ x = nI m := by
      rcases nI_cases x 51 (by decide) with q | q | q
      · exact q
      · exact absurd c.1 (Int32.not_le.mpr q)
      · exact absurd (Int32.le_trans q c.2) (by decide)
    rw [nI_clamp (by omega)] at hr
    generalize he : hrn m (0, true, a) = e at hr
    refine zT.jnQ (fun y => y.1 = nI e.1 ∧ y.2.1 = e.2.1 ∧ zE pMo s y.2.2 ∧ MA y.2.2 e.2.2) ?_ ?_
    · rintro ⟨_, _, u⟩ ⟨rfl, rfl, hE, hM⟩
      have hnr6 := hM.1.2.2.2.2.2.1
      dsimp only at *
      rw [show gi u 0 9 = nI e.2.2.2.2.1.1 from hM.2.1.1.2.2.1]
      refine zT.cnt 6 (fun k y => k ≤ e.2.2.2.2.1.1 ∧ y = (nI (stf e.2.2 k), nI k)) (by omega) ⟨Nat.zero_le _, rfl⟩ ?_
      rintro j k _ hk ⟨hkn, rfl⟩ hj
      dsimp only
      refine zT.ite (fun c2 => ?_) (fun c2 => ?_)
      · rw [nI_leI (by omega) (by omega)] at c2
        have ek : k = e.2.2.2.2.1.1 := by omega
        subst hr
        rw [ek]
        refine zT.ltS (zT.ln (fun x8 hx8 => ?_))
        have e8 : f_M_flag x8 = nI (!e.2.1).toNat := by rw [hx8, flag_t]; cases e.2.1 <;> rfl
        rw [e8]
        refine zT.bnT (m_ent _ hM.put0 (by simp)) ?_
        rintro v ⟨hE2, hM2⟩
        refine zT.bnT (m_ent _ hM2 (by simp)) ?_
        rintro w ⟨hE3, hM3⟩
        exact zT.ret ⟨rfl, hE.trans (prm_mo (zE.trans ((zE.refl _ _).wi rfl) (hE2.trans hE3))), hM3⟩
      · rw [nI_leI (by omega) (by omega)] at c2
        refine zT.bnE (m_leftOf hM (r := k) (by omega)) ?_
        have hdn : ndf (e.2.2.2.2.1.2.2 k) (e.2.2.2.2.2.1.2.2.1 k) < 4096 := Nat.lt_of_lt_of_le (lef_lt hM.1 (r := k) (by omega)) (Nat.pow_le_pow_right (n := 2) (by decide) hM.1.2.2.2.1)
        refine zT.ln (fun x14 hx => zT.ln (fun v15 hv => zT.ltS ?_))
        rw [nI_1]
        refine hj (by omega) _ ⟨by omega, ?_⟩
        rw [hv, hx, stf_s]
        unfold lef
        by_cases q : ndf (e.2.2.2.2.1.2.2 k) (e.2.2.2.2.2.1.2.2.1 k) = 0
        · rw [if_pos (by rw [q]; rfl), if_pos q, shI_n (by omega), nI_or]
        · have q' : ¬ nI (ndf (e.2.2.2.2.1.2.2 k) (e.2.2.2.2.2.1.2.2.1 k)) = (0 : Int32) := fun w => q ((nI_eq (by omega) (by decide)).mp w)
          rw [if_neg q', if_neg q, show (0 : Int32) = nI 0 from rfl, nI_or, Nat.or_zero]
    · intro j19 hj19
      refine zT.cnt m (fun k y => y.1 = nI k ∧ zE pMo s y.2.2 ∧ ∃ b a', y.2.1 = b ∧ MA y.2.2 a' ∧ hrn (m - k) (k, b, a') = e) (by omega) ⟨rfl, hE0, true, a, rfl, hz, he⟩ ?_
      rintro j k ⟨_, b, u⟩ hk ⟨rfl, hE, _, a', rfl, hM, hh⟩ hj
      dsimp only at *
      refine zT.ite (fun c2 => ?_) (fun c2 => ?_)
      · rw [nI_leI (by omega) (by omega)] at c2
        rw [show m - k = 0 by omega] at hh
        have hh : (k, b, a') = e := hh
        subst hh
        exact hj19 _ ⟨rfl, rfl, hE, hM⟩
      · rw [nI_leI (by omega) (by omega)] at c2
        refine zT.ite (fun c3 => ?_) (fun c3 => ?_)
        · subst c3
          refine zT.bnT (m_goesHour hn hM) ?_
          rintro ⟨_, v⟩ ⟨rfl, hE2, hM2⟩
          refine zT.ltS ?_
          rw [nI_1]
          refine hj (by omega) _ ⟨rfl, hE.trans hE2, _, _, rfl, hM2, ?_⟩
          rw [show m - k = (m - (k + 1)) + 1 by omega, hrn_t _ rfl] at hh
          exact hh
        · have cb : b = false := by cases b <;> simp_all
          rw [hrn_f _ cb] at hh
          subst hh
          exact hj19 _ ⟨rfl, rfl, hE, hM⟩
  · rw [decide_eq_true_eq] at c
    rw [if_neg c] at hr
    subst hr
    exact zT.ret ⟨rfl, hE0, hz⟩
theorem x_satisfied {n T : Nat} {s : ZSt} {a : ZA} (hn : 60 < n) (h : XX s T a) : f_X_satisfied n s = some (nI (stf a a.2.2.1.1)) := by
  have hnr := h.1.2.2.2.2.2.1
  obtain ⟨hA, ⟨st, hst, hB⟩, hO⟩ := id h
  apply zT.eq
  unfold f_X_satisfied
  rw [hO.2.2.2.2.1.1]
  refine zT.cnt 6 (fun k y => k ≤ a.2.2.1.1 ∧ y = (nI (stf a k), nI k)) (by omega) ⟨Nat.zero_le _, rfl⟩ ?_
  rintro j k _ hk ⟨hkn, rfl⟩ hj
  dsimp only
  refine zT.ite (fun c2 => ?_) (fun c2 => ?_)
  · rw [nI_leI (by omega) (by omega)] at c2
    have ek : k = a.2.2.1.1 := by omega
    exact zT.ret (by rw [ek])
  · rw [nI_leI (by omega) (by omega)] at c2
    refine zT.gu (inb_n (by omega) (by decide)) ?_
    rw [ra_r (by omega)]
    refine zT.bnE (x_left hA hO (r := k) (by omega)) ?_
    have hdn : ndf (a.2.2.1.2.2 k) (a.2.2.2.1.2.2.1 k) < 4096 := Nat.lt_of_lt_of_le (lef_lt hA (r := k) (by omega)) (Nat.pow_le_pow_right (n := 2) (by decide) hA.2.2.2.1)
    refine zT.ln (fun x6 hx => zT.ltS ?_)
    rw [nI_1]
    refine hj (by omega) _ ⟨by omega, ?_⟩
    rw [hx, stf_s]
    unfold lef
    by_cases q : ndf (a.2.2.1.2.2 k) (a.2.2.2.1.2.2.1 k) = 0
    · rw [if_pos (by rw [q]; rfl), if_pos q, shI_n (by omega), nI_or]
    · have q' : ¬ nI (ndf (a.2.2.1.2.2 k) (a.2.2.2.1.2.2.1 k)) = (0 : Int32) := fun w => q ((nI_eq (by omega) (by decide)).mp w)
      rw [if_neg q', if_neg q]
def pxh : Nat → Nat → Bool := fun o _ => o == 1 || (decide (200 ≤ o) && decide (o < 550) && o != 214)
theorem x_hour {n T : Nat} {s : ZSt} {a : ZA} {α : Type} {P : α → Prop} {f : Int32 → ZSt → Option α} (hn : 60 < n) (hT : T < 2 ^ 27) (h : XX s T a)
    (k0 : ∀ t, zE pXo s t → XX t (T + 12) (hour a).2 → zT (f (nI (!(hour a).1).toNat) t) P) :
    zT (bn (f_X_lineUp n s) (fun p16 => lpN (fun j18 (x17 : Int32 × Int32 × ZSt) => (if (gi x17.2.2 1 7) ≤ x17.2.1 then lt (si x17.2.2 1 9 ((gi x17.2.2 1 9) + (1 : Int32))) (fun s21 => f x17.1 s21) else gd (inb x17.2.1 6) (bn (f_X_turn n (ai x17.2.2 214 x17.2.1) x17.2.2) (fun p23 => (lt ((if p23.1 = true then (0 : Int32) else x17.1) : Int32) (fun x24 => lt (x17.2.1 + (1 : Int32)) (fun v25 => j18 (x24, v25, p23.2)))))))) n ((1 : Int32), (0 : Int32), p16))) P := by
  have hnr := h.1.2.2.2.2.2.1
  refine zT.bnT (x_lineUp hn h) ?_
  rintro t ⟨hE, hM, ho, hod⟩
  refine zT.cnt 6 (fun k x => k ≤ a.2.2.1.1 ∧ x.1 = nI (!(hst a (odr a) k).1).toNat ∧ x.2.1 = nI k ∧ zE pxu t x.2.2 ∧ XX x.2.2 (T + 2 * k) (hst a (odr a) k).2) (by omega) ⟨Nat.zero_le _, rfl, rfl, zE.refl _ _, hM⟩ ?_
  rintro j k ⟨_, _, u⟩ hk ⟨hkn, rfl, rfl, hE2, hM2⟩ hj
  dsimp only at *
  have h9 : gi u 1 7 = nI a.2.2.1.1 := by
    have := hM2.2.2.2.2.2.2.1.1
    rw [hst_R] at this; exact this
  rw [h9]
  refine zT.ite (fun c => ?_) (fun c => ?_)
  · rw [nI_leI (by omega) (by omega)] at c
    have e : k = a.2.2.1.1 := by omega
    subst e
    refine zT.ltS (k0 _ ?_ (hM2.hr.mono (by omega)))
    exact (pxo_xo hE).trans ((pxu_xo hE2).wi rfl)
  · rw [nI_leI (by omega) (by omega)] at c
    have hr : odr a k < (hst a (odr a) k).2.2.2.1.1 := by rw [hst_R]; exact ho.1 k (by omega)
    refine zT.gu (inb_n (by omega) (by decide)) ?_
    rw [ai_n _ _ (by omega), hE2.i (o := 214) rfl, hod k (by omega)]
    refine zT.bnT (x_turn hn hM2 (by omega) hr) ?_
    rintro ⟨_, v⟩ ⟨rfl, hE3, hM3⟩
    dsimp only
    refine zT.ln (fun x9 hx9 => zT.ltS ?_)
    rw [nI_1]
    refine hj (by omega) _ ⟨by omega, ?_, rfl, hE2.trans hE3, hM3⟩
    dsimp only
    rw [hx9, hst_s]
    dsimp only
    by_cases q : 0 < (trn (hst a (odr a) k).2 (odr a k)).1
    · rw [decide_eq_true q, if_pos rfl, Bool.or_true]; rfl
    · rw [decide_eq_false q, if_neg (by decide), Bool.or_false]
set_option maxHeartbeats 1000000 in
theorem x_hours {n T : Nat} {s : ZSt} {a : ZA} (x : Int32) (hn : 60 < n) (hT : T < 2 ^ 26) (h : XX s T a) : zT (f_X_hours n x s) (xP (sHours x a).1 (T + 600) (sHours x a).2 s) := by
  have hnr := h.1.2.2.2.2.2.1
  generalize hr : sHours x a = r
  unfold sHours at hr
  unfold f_X_hours
  refine zT.ite (fun c0 => ?_) (fun c0 => ?_)
  · rw [if_neg (fun q => absurd q.1 (Int32.not_le.mpr c0))] at hr
    subst hr
    exact zT.ret ⟨rfl, zE.refl _ _, h.mono (by omega)⟩
  refine zT.ite (fun c => ?_) (fun c => ?_)
  · rw [if_pos ⟨Int32.not_lt.mp c0, c⟩] at hr
    obtain ⟨m, hm, rfl⟩ : ∃ m, m < 51 ∧ x = nI m := by
      rcases nI_cases x 51 (by decide) with q | q | q
      · exact q
      · exact absurd q c0
      · exact absurd (Int32.le_trans q c) (by decide)
    rw [nI_clamp (by omega)] at hr
    generalize he : hrn m (0, true, a) = e at hr
    refine zT.jnQ (fun y => y.1 = nI e.1 ∧ y.2.1 = nI (!e.2.1).toNat ∧ zE pXo s y.2.2 ∧ XX y.2.2 (T + 600) e.2.2) ?_ ?_
    · rintro ⟨_, _, u⟩ ⟨rfl, rfl, hE, hM⟩
      dsimp only at *
      refine zT.ltS (zT.ln (fun x5 hx5 => ?_))
      have e8 : x5 = nI (!e.2.1).toNat := by rw [hx5]; cases e.2.1 <;> rfl
      rw [e8]
      refine zT.bnT (x_tel _ hM.put0 (by simp)) ?_
      rintro v ⟨hE2, hM2⟩
      refine zT.bnE (x_satisfied hn hM2) ?_
      rw [stf_R]
      refine zT.bnT (x_tel _ hM2 (by simp)) ?_
      rintro w ⟨hE3, hM3⟩
      subst hr
      exact zT.ret ⟨rfl, hE.trans (prx_xo (zE.trans ((zE.refl _ _).wi rfl) (hE2.trans hE3))), hM3⟩
    · intro j19 hj19
      refine zT.cnt m (fun k y => y.1 = nI k ∧ zE pXo s y.2.2 ∧ ∃ b a', y.2.1 = nI (!b).toNat ∧ XX y.2.2 (T + 12 * k) a' ∧ hrn (m - k) (k, b, a') = e) (by omega) ⟨rfl, zE.refl _ _, true, a, rfl, h, he⟩ ?_
      rintro j k ⟨_, _, u⟩ hk ⟨rfl, hE, b, a', rfl, hM, hh⟩ hj
      dsimp only at *
      refine zT.ite (fun c2 => ?_) (fun c2 => ?_)
      · rw [nI_leI (by omega) (by omega)] at c2
        rw [show m - k = 0 by omega] at hh
        have hh : (k, b, a') = e := hh
        subst hh
        exact hj19 _ ⟨rfl, rfl, hE, hM.mono (by omega)⟩
      · rw [nI_leI (by omega) (by omega)] at c2
        refine zT.ite (fun c3 => ?_) (fun c3 => ?_)
        · have cb : b = true := by
            cases b
            · exact absurd c3 (by decide)
            · rfl
          subst cb
          refine x_hour (f := fun i t => lt (nI k + (1 : Int32)) (fun v20 => j (v20, i, t))) hn (by omega) hM ?_
          intro t hE2 hM2
          refine zT.ltS ?_
          rw [nI_1]
          refine hj (by omega) _ ⟨rfl, hE.trans hE2, _, _, rfl, hM2.mono (by omega), ?_⟩
          rw [show m - k = (m - (k + 1)) + 1 by omega, hrn_t _ rfl] at hh
          exact hh
        · have cb : b = false := by
            cases b
            · rfl
            · exact absurd rfl c3
          rw [hrn_f _ cb] at hh
          subst hh
          exact hj19 _ ⟨rfl, rfl, hE, hM.mono (by omega)⟩
  · rw [if_neg (fun q => c q.2)] at hr
    subst hr
    exact zT.ret ⟨rfl, zE.refl _ _, h.mono (by omega)⟩
end Z45
