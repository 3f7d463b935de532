-- rule
section Z96
section
variable {tx : Nat → Int32} {to n : Nat}
theorem m_whole {p b : Nat} {s : ZSt} (hn : 100 < n) (ht : to ≤ 60) (hb : b ≤ to) (hp : p = 25 ∨ p = 26) (h1 : gi s 0 19 = nI b) (h2 : gi s 0 20 = nI to) (h3 : ∀ k, k < to → gi s 117 k = tx k) (hc : gi s 115 p = 0) :
    zT (fc_M_reads n (nI p) s) (fun r => r.1 = (gRc tx to 4 b).1 ∧ zE (fun q j => (q == 0 && (j == 19 || j == 21 || j == 22)) || (q == 115 && j == p) || (q == 114 && decide (64 * p ≤ j) && decide (j < 64 * p + 64))) s r.2 ∧ gi r.2 0 19 = nI (gRc tx to 4 b).2.1 ∧ codeM r.2 p (gRc tx to 4 b).2.2) := by
  unfold fc_M_reads f_M_reads
  refine zT.ltS (zT.ltS ?_)
  have hP : PM tx to p (si (si s 0 22 (nI p)) 0 21 0) b [] := by
    refine ⟨h1, h2, fun k hk => h3 k hk, rfl, hc, fun k hk => absurd hk (Nat.not_lt_zero _), hp⟩
  have hE1 : zE (fun q j => (q == 0 && (j == 19 || j == 21 || j == 22)) || (q == 115 && j == p) || (q == 114 && decide (64 * p ≤ j) && decide (j < 64 * p + 64))) s (si (si s 0 22 (nI p)) 0 21 0) := ((zE.refl _ _).wi rfl).wi rfl
  refine zT.bnT (m_any hn ht 4 24 (by omega) (by omega) b [] _ hP rfl hb (Nat.zero_le _)) ?_
  rintro ⟨w, s2⟩ ⟨hw, hE2, ⟨q1, q2, q3, q4, q5, q6, q7⟩, _⟩
  rw [List.nil_append] at q5 q6
  exact zT.ret ⟨hw, hE1.trans (hE2.mono (fun o j e => by simp [pmp] at *; omega)), q1, q5, q6⟩
theorem m_fault {len most b : Nat} {goes : Bool} {s : ZSt} (h1 : gi s 0 19 = nI b) (h2 : gi s 0 20 = nI to) (hb : b ≤ to) (hl : len ≤ 80) (hm : most ≤ 60) (ht : to = min len most) :
    f_M_faultOf (nI len) (nI most) goes s = if (goes && (decide (b = to) && decide (len ≤ most))) = true then 0 else -1 - nI b := by
  have e1 : (nI b = nI to) ↔ b = to := nI_eq (by omega) (by omega)
  have e2 : (nI len ≤ nI most) ↔ len ≤ most := nI_leI (by omega) (by omega)
  have e3 : (nI b < nI most) ↔ b < most := nI_ltI (by omega) (by omega)
  have z1 : ¬ (1 : Int32) = 0 := by decide
  unfold f_M_faultOf
  rw [h1, h2]
  simp only [e1, e2, e3, z1, if_false, if_true]
  cases goes
  · simp only [Bool.false_and]
    by_cases c : len ≤ most
    · simp [c]
    · by_cases c2 : b < most
      · simp [c, c2]
      · have : b = most := by omega
        simp [c, this]
  · by_cases c0 : b = to
    · by_cases c : len ≤ most
      · simp [c0, c]
      · have : b = most := by omega
        have h3 : to = most := by omega
        simp [c0, c, h3]
    · by_cases c : len ≤ most
      · simp [c0, c]
      · by_cases c2 : b < most
        · simp [c0, c, c2]
        · omega
end
def plq (q : Nat) : Nat → Nat → Bool := fun o j => (o == 115 && j == q) || (o == 114 && decide (64 * q ≤ j) && decide (j < 64 * q + 64))
theorem m_lays {n p q : Nat} {s : ZSt} {l : List Int32} (hn : 100 < n) (hp : p < 27) (hq : q < 27) (hne : p ≠ q) (hl : l.length ≤ 60) (hc : codeM s p l) : zT (f_M_lays n (nI p) (nI q) s) (fun t => zE (plq q) s t ∧ codeM t q l) := by
  obtain ⟨c1, c2⟩ := hc
  unfold f_M_lays
  refine zT.gu (inb_n hp (by decide)) (zT.gu (inb_n hq (by decide)) ?_)
  rw [ai_n _ _ (by omega), sai_n _ _ _ (by omega), c1]
  refine zT.ln (fun s3 hs3 => ?_)
  have hE3 : zE (plq q) s s3 := by rw [hs3]; exact (zE.refl _ _).wi (by simp [plq])
  refine zT.cnt 64 (fun k x => x.1 = nI k ∧ zE (plq q) s x.2 ∧ gi x.2 115 q = nI l.length ∧ ∀ j, j < k → gi x.2 114 (64 * q + j) = gi s 114 (64 * p + j)) (by omega) ⟨rfl, hE3, by rw [hs3, gi_i, if_pos ⟨rfl, rfl⟩], fun j hj => absurd hj (Nat.not_lt_zero _)⟩ ?_
  rintro j k ⟨_, u⟩ hk ⟨rfl, hE, g1, g2⟩ hj
  dsimp only at *
  refine zT.ite (fun c => ?_) (fun c => ?_)
  · rw [show (64 : Int32) = nI 64 from rfl, nI_leI (by omega) (by omega)] at c
    refine zT.ret ⟨hE, g1, fun i hi => ?_⟩
    rw [g2 i (by omega)]
    exact c2 i hi
  · rw [show (64 : Int32) = nI 64 from rfl, nI_leI (by omega) (by omega)] at c
    rw [show (64 : Int32) = nI 64 from rfl, nI_mulL, nI_mulL, nI_add, nI_add]
    refine zT.gu (inb_n (by omega) (by decide)) (zT.gu (inb_n (by omega) (by decide)) ?_)
    rw [ai_n _ _ (by omega), sai_n _ _ _ (by omega), hE.i (show plq q 114 (64 * p + k) = false by simp [plq]; omega), nI_1]
    refine zT.ltS (zT.ltS (hj (by omega) _ ⟨rfl, hE.wi (by simp [plq]; omega), by dsimp only; rw [gi_i, if_neg (by omega)]; exact g1, fun i hi => ?_⟩))
    dsimp only
    rw [gi_i]
    by_cases e : i = k
    · rw [if_pos ⟨rfl, by rw [e]⟩, e]
    · rw [if_neg (fun w => e (by have := w.2; omega))]
      exact g2 i (by omega)
def aTR (a : ZA) (ru : List Int32) : ZA := (([], ru, a.1.2.2), a.2)
theorem okA_TR {a : ZA} (h : okA a) {ru : List Int32} (hw : wfL ru) : okA (aTR a ru) := ⟨Nat.zero_le _, hw, h.2.2⟩
noncomputable def sRule (a : ZA) : Int32 × ZA := if a.1.1.length = 0 then (0, aTR a []) else
  if gdP (lF a.1.1) (min a.1.1.length 40) a.1.1.length 40 false = true then (0, aTR a (gBk (lF a.1.1) (min a.1.1.length 40) false).2.2.1) else (-1 - nI (gBk (lF a.1.1) (min a.1.1.length 40) false).2.1, aTR a a.1.2.1)
/-- the reference: what a text's reading may change -/
def pmr : Nat → Nat → Bool := fun o j => (o == 0 && (j == 0 || (decide (18 ≤ j) && decide (j < 23)))) || (o == 115 && decide (25 ≤ j)) || (o == 114 && decide (1600 ≤ j))
theorem pmr_mo {s t : ZSt} (h : zE pmr s t) : zE pMo s t := h.mono (fun o j e => by simp [pMo, pmr] at *; omega)
theorem MA.tr0 {s t : ZSt} {a : ZA} (h : MA s a) (hE : zE pmr s t) (h18 : gi t 0 18 = 0) : MA t (aTR a a.1.2.1) := by
  obtain ⟨hA, hC, h2, h3, h4, h5, h6, h7⟩ := h
  refine ⟨okA_TR hA hA.2.1, hC.onC (fun o j e => hE.i (by simp [qC, pmr] at *; omega)), ⟨h18, fun k hk => absurd hk (Nat.not_lt_zero _)⟩, MRl.fr h3 hA.2.1 hE ⟨rfl, fun j hj => by simp [pmr]; omega⟩, h4.fr hE ⟨rfl, fun _ => rfl⟩, h5.fr hE (fun _ => ⟨rfl, rfl, rfl⟩), h6.fr hE ⟨rfl, rfl, fun _ => rfl⟩, MKs.fr h7 hE (fun _ => ⟨rfl, rfl⟩)⟩
theorem MA.rul {s t : ZSt} {a : ZA} {ru : List Int32} (h : MA s a) (hE : zE (plq 24) s t) (hw : wfL ru) (hc : codeM t 24 ru) (h0 : a.1.1 = []) : MA t (aTR a ru) := by
  obtain ⟨hA, hC, h2, h3, h4, h5, h6, h7⟩ := h
  refine ⟨okA_TR hA hw, ?_, ⟨by have := (hE.i (show plq 24 0 18 = false from rfl)).trans h2.1; rw [h0] at this; exact this, fun k hk => absurd hk (Nat.not_lt_zero _)⟩, hc, h4.fr hE ⟨rfl, fun _ => rfl⟩, h5.fr hE (fun _ => ⟨rfl, rfl, rfl⟩), h6.fr hE ⟨rfl, rfl, fun _ => rfl⟩, MKs.fr h7 hE (fun _ => ⟨rfl, rfl⟩)⟩
  obtain ⟨q1, q2, q3, q4, q5, q6⟩ := hC
  obtain ⟨r1, r2, r3, r4, r5, r6⟩ := q1
  refine ⟨⟨(hE.i rfl).trans r1, r2, (hE.i rfl).trans r3, r4, fun r hr => ⟨(hE.i rfl).trans (r5 r hr).1, (r5 r hr).2⟩, fun b hb => ?_⟩, fun b hb => (hE.i rfl).trans (q2 b hb), fun b hb => (hE.i rfl).trans (q3 b hb), fun t ht => ⟨(hE.i rfl).trans (q4 t ht).1, (q4 t ht).2⟩, fun t ht => (hE.i rfl).trans (q5 t ht), q6⟩
  obtain ⟨f1, f2, f3, f4, f5, f6, f7⟩ := r6 b hb
  have l1 : (a.2.1.2.1 b).length ≤ 60 := f3.1
  have l2 : (a.2.1.2.2.1 b).length ≤ 60 := f4.1
  have hb12 : b < 12 := Nat.lt_of_lt_of_le hb r2
  have cm : ∀ (q : Nat) (l : List Int32), q < 24 → l.length ≤ 60 → codeM s q l → codeM t q l := fun q l hq hl hc => ⟨(hE.i (by simp [plq]; omega)).trans hc.1, fun k hk => (hE.i (by simp [plq]; omega)).trans (hc.2 k hk)⟩
  exact ⟨cm _ _ (by omega) l1 f1, cm _ _ (by omega) l2 f2, f3, f4, (hE.i rfl).trans f5, f6, f7⟩
/-- the reference, having begun to read -/
theorem m_begins {most : Nat} {s : ZSt} {a : ZA} (hm : most ≤ 60) (h : MA s a) : zT (f_M_begins (nI most) s) (fun r => r.1 = nI a.1.1.length ∧ zE pmr s r.2 ∧ gi r.2 0 18 = 0 ∧ gi r.2 0 19 = nI 0 ∧ gi r.2 0 20 = nI (min a.1.1.length most) ∧ gi r.2 115 25 = 0 ∧ gi r.2 115 26 = 0 ∧ ∀ k, k < a.1.1.length → gi r.2 117 k = lF a.1.1 k) := by
  have h80 := h.1.1
  obtain ⟨t1, t2⟩ := h.2.2.1
  unfold f_M_begins
  rw [t1]
  refine zT.ltS (zT.ltS (zT.ltS ?_))
  rw [imin_n (by omega) (by omega), show (25 : Int32) = nI 25 from rfl, show (26 : Int32) = nI 26 from rfl]
  refine zT.ltS ?_
  rw [sai_n _ _ _ (by decide)]
  refine zT.ltS ?_
  rw [sai_n _ _ _ (by decide)]
  refine zT.ltS (zT.ret ⟨rfl, ((((zE.refl _ _).wi rfl).wi rfl).wi rfl).wi rfl |>.wi rfl, rfl, rfl, rfl, rfl, rfl, fun k hk => ?_⟩)
  have := t2 k hk
  rw [Nat.zero_add] at this
  exact this
theorem m_rule {n : Nat} {s : ZSt} {a : ZA} (hn : 100 < n) (h : MA s a) : zT (f_M_rule n s) (mP (sRule a).1 (sRule a).2 s) := by
  have h80 := h.1.1
  generalize hr : sRule a = r
  unfold sRule at hr
  unfold f_M_rule
  refine zT.ln (fun s1 hs1 => ?_)
  obtain ⟨hz, hE0, h00⟩ := mz h hs1
  clear hs1
  refine zT.bnT (m_begins (most := 40) (by decide) hz) ?_
  rintro ⟨_, s2⟩ ⟨rfl, hE2, b18, b19, b20, b25, b26, btx⟩
  dsimp only at *
  generalize hto : min a.1.1.length 40 = to at hr b20
  have hM2 := hz.tr0 hE2 b18
  obtain ⟨B1, B2⟩ := gBk_sp (tx := lF a.1.1) (to := to) false (by omega)
  have eB : gBk (lF a.1.1) to false = ((gRc (lF a.1.1) to 4 0).1, (gRc (lF a.1.1) to 4 0).2.1, (gRc (lF a.1.1) to 4 0).2.2, 0, []) := by unfold gBk; rw [if_neg (by decide)]
  refine zT.jnQ (fun x => ∃ b goes, x.1 = goes ∧ gi x.2 0 19 = nI b ∧ gi x.2 0 20 = nI to ∧ b ≤ to ∧ zE pmr s1 x.2 ∧ gi x.2 0 18 = 0 ∧ ((a.1.1.length = 0 ∧ b = to ∧ goes = true ∧ codeM x.2 25 []) ∨ (a.1.1.length ≠ 0 ∧ b = (gBk (lF a.1.1) to false).2.1 ∧ goes = (gBk (lF a.1.1) to false).1 ∧ codeM x.2 25 (gBk (lF a.1.1) to false).2.2.1))) ?_ ?_
  · rintro ⟨goes, x⟩ ⟨b, _, rfl, x19, x20, hb, hEx, x18, hx⟩
    dsimp only at *
    have hMx := hz.tr0 hEx x18
    rw [show (40 : Int32) = nI 40 from rfl, m_fault x19 x20 hb h80 (by decide) hto.symm]
    refine zT.ln (fun v4 hv4 => ?_)
    rcases hx with ⟨g0, g1, g2, g3⟩ | ⟨g0, g1, g2, g3⟩
    · rw [if_pos g0] at hr
      subst hr
      rw [g2, g1, decide_eq_true rfl, decide_eq_true (show a.1.1.length ≤ 40 by omega), if_pos (show (true && (true && true)) = true from rfl)] at hv4
      rw [hv4]
      refine zT.it (by decide) ?_
      rw [show (25 : Int32) = nI 25 from rfl, show (24 : Int32) = nI 24 from rfl]
      refine zT.bnT (m_lays hn (by decide) (by decide) (by decide) (Nat.zero_le _) g3) ?_
      rintro x2 ⟨hE3, hc3⟩
      exact zT.ret ⟨rfl, hE0.trans ((pmr_mo hEx).trans (hE3.mono (fun o j e => by simp [plq, pMo] at *; omega))), hMx.rul hE3 wf_nil hc3 rfl⟩
    · rw [if_neg g0] at hr
      have hgd : (goes && (decide (b = to) && decide (a.1.1.length ≤ 40))) = gdP (lF a.1.1) to a.1.1.length 40 false := by unfold gdP; rw [g1, g2]
      rw [hgd] at hv4
      by_cases w : gdP (lF a.1.1) to a.1.1.length 40 false = true
      · rw [if_pos w] at hr hv4
        subst hr
        have hok : (gBk (lF a.1.1) to false).1 = true := by unfold gdP at w; rw [Bool.and_eq_true] at w; exact w.1
        obtain ⟨w1, _⟩ := B2 hok
        rw [hv4]
        refine zT.it (by decide) ?_
        rw [show (25 : Int32) = nI 25 from rfl, show (24 : Int32) = nI 24 from rfl]
        refine zT.bnT (m_lays hn (by decide) (by decide) (by decide) w1.1 g3) ?_
        rintro x2 ⟨hE3, hc3⟩
        exact zT.ret ⟨rfl, hE0.trans ((pmr_mo hEx).trans (hE3.mono (fun o j e => by simp [plq, pMo] at *; omega))), hMx.rul hE3 w1 hc3 rfl⟩
      · rw [if_neg w] at hr hv4
        subst hr
        rw [hv4]
        have hneg : ¬ 0 ≤ (-1 : Int32) - nI b := by
          have key : ∀ k, k < 61 → ¬ 0 ≤ (-1 : Int32) - nI k := by decide +kernel
          exact key b (by omega)
        exact zT.ie hneg (zT.ret ⟨by rw [g1], hE0.trans (pmr_mo hEx), hMx⟩)
  intro j7 hj7
  refine zT.jnQ (fun x => ∃ b, gi x 0 19 = nI b ∧ gi x 0 20 = nI to ∧ b ≤ to ∧ zE pmr s1 x ∧ gi x 0 18 = 0 ∧ ((a.1.1.length = 0 ∧ b = to ∧ codeM x 25 []) ∨ (a.1.1.length ≠ 0 ∧ b = (gBk (lF a.1.1) to false).2.1 ∧ true = (gBk (lF a.1.1) to false).1 ∧ codeM x 25 (gBk (lF a.1.1) to false).2.2.1))) ?_ ?_
  · rintro x ⟨b, x1, x2, x3, x4, x5, x6⟩
    refine hj7 _ ⟨b, true, rfl, x1, x2, x3, x4, x5, ?_⟩
    rcases x6 with ⟨q1, q2, q3⟩ | ⟨q1, q2, q3, q4⟩
    · exact Or.inl ⟨q1, q2, rfl, q3⟩
    · exact Or.inr ⟨q1, q2, q3, q4⟩
  intro j9 hj9
  refine zT.ite (fun c => ?_) (fun c => ?_)
  · have c := (nI_eq (b := 0) (by omega) (by decide)).mp c
    exact hj9 _ ⟨0, b19, b20, Nat.zero_le _, hE2, b18, Or.inl ⟨c, by omega, b25, fun k hk => absurd hk (Nat.not_lt_zero _)⟩⟩
  · have c : a.1.1.length ≠ 0 := fun w => c (by rw [w]; rfl)
    rw [show (25 : Int32) = nI 25 from rfl]
    refine zT.bnT (m_whole (tx := lF a.1.1) hn (show to ≤ 60 by omega) (Nat.zero_le _) (Or.inl rfl) b19 b20 (fun k hk => btx k (by omega)) b25) ?_
    rintro ⟨_, s3⟩ ⟨rfl, hE3, k19, kc⟩
    dsimp only at *
    have hE23 : zE pmr s1 s3 := hE2.trans (hE3.mono (fun o j e => by simp [pmr] at *; omega))
    have k20 : gi s3 0 20 = nI to := (hE3.i rfl).trans b20
    have k18 : gi s3 0 18 = 0 := (hE3.i rfl).trans b18
    have hb := B1
    rw [eB] at hb
    refine zT.ite (fun c2 => ?_) (fun c2 => ?_)
    · exact hj9 _ ⟨_, k19, k20, hb, hE23, k18, Or.inr ⟨c, by rw [eB], by rw [eB]; exact c2.symm, by rw [eB]; exact kc⟩⟩
    · have c2 : (gRc (lF a.1.1) to 4 0).1 = false := by cases w : (gRc (lF a.1.1) to 4 0).1; rfl; exact absurd w c2
      exact hj7 _ ⟨_, false, rfl, k19, k20, hb, hE23, k18, Or.inr ⟨c, by rw [eB], by rw [eB]; exact c2.symm, by rw [eB]; exact kc⟩⟩
-- the class
theorem ppr_xo {s t : ZSt} (h : zE ppr s t) : zE pXo s t := h.mono (fun o j e => by simp [pXo, ppr] at *; omega)
theorem XX.tr0 {s t : ZSt} {T : Nat} {a : ZA} (h : XX s T a) (hE : zE ppr s t) (h3 : gi t 200 3 = 0) : XX t T (aTR a a.1.2.1) := by
  obtain ⟨hA, ⟨st, hst, hB⟩, h2, h4, h5, h6, h7, h8, h9⟩ := h
  refine ⟨okA_TR hA hA.2.1, ⟨st, hst, XA.fr2 hB hE ⟨⟨rfl, fun b hb => ⟨?_, ?_, ?_, ?_, fun k => ?_, fun k => ?_⟩, fun _ => rfl⟩, rfl, fun b hb => ⟨?_, ?_⟩, rfl, fun _ => ⟨rfl, rfl⟩⟩⟩, ⟨h3, fun k hk => absurd hk (Nat.not_lt_zero _)⟩, h4.fr hE ⟨rfl, fun _ => rfl⟩, h5.fr hE ⟨rfl, fun _ => rfl⟩, h6.fr hE (fun b hb => ⟨?_, ?_⟩), h7.fr hA.2.2.2.2.2.1 hE ⟨rfl, fun r j hr => ?_⟩, h8.fr hE ⟨rfl, rfl, fun _ => rfl⟩, XKs.fr h9 hE (fun o j h1 h2 => ?_)⟩ <;> (simp [ppr]; omega)
def p352 : Nat → Nat → Bool := fun o j => (o == 352 && j == 2) || o == 432
theorem p352_xo {s t : ZSt} (h : zE p352 s t) : zE pXo s t := h.mono (fun o j e => by simp [pXo, p352] at *; omega)
theorem XX.rul {s t : ZSt} {T : Nat} {a : ZA} {ru : List Int32} (h : XX s T a) (hE : zE p352 s t) (hw : wfL ru) (hc : codeX t 352 ru) (h0 : a.1.1 = []) : XX t T (aTR a ru) := by
  obtain ⟨hA, ⟨st, hst, hB⟩, h2, h4, h5, h6, h7, h8, h9⟩ := h
  refine ⟨okA_TR hA hw, ⟨st, hst, XA.fr2 hB hE ⟨⟨rfl, fun b hb => ⟨?_, ?_, ?_, ?_, fun k => ?_, fun k => ?_⟩, fun _ => rfl⟩, rfl, fun b hb => ⟨?_, ?_⟩, rfl, fun _ => ⟨rfl, rfl⟩⟩⟩, ⟨by have := (hE.i (show p352 200 3 = false from rfl)).trans h2.1; rw [h0] at this; exact this, fun k hk => absurd hk (Nat.not_lt_zero _)⟩, hc, h5.fr hE ⟨rfl, fun _ => rfl⟩, h6.fr hE (fun b hb => ⟨?_, ?_⟩), h7.fr hA.2.2.2.2.2.1 hE ⟨rfl, fun r j hr => ?_⟩, h8.fr hE ⟨rfl, rfl, fun _ => rfl⟩, XKs.fr h9 hE (fun o j h1 h2 => ?_)⟩ <;> (simp [p352]; omega)
theorem e_copy {o q : Nat} {s : ZSt} {l : List Int32} (ho : z_isO o 1 = true) (hq : z_isO q 1 = true) (hl : l.length ≤ 60) (hne : o ≠ q ∧ o ≠ q + 80 ∧ q ≠ o + 80) (hc : codeX s q l) : zT (f_E_copy o q s) (fun t => zE (fun u j => (u == o && j == 2) || u == o + 80) s t ∧ codeX t o l) := by
  obtain ⟨c1, c2⟩ := hc
  unfold f_E_copy
  refine zT.gu ho (zT.gu hq (zT.ltS ?_))
  rw [show (60 : Int32).toNatClampNeg = 60 from rfl, gi_c, if_neg (by omega), c1]
  refine zT.ltS (zT.ret ⟨?_, ?_, fun k hk => ?_⟩)
  · intro u j e
    refine ⟨?_, ?_⟩
    · rw [gi_i, if_neg (fun w => by rw [w.1, w.2] at e; simp at e), gi_c, if_neg (fun w => by rw [w.1] at e; simp at e)]
    · rw [gl_i, gl_c]
  · rw [gi_i, if_pos ⟨rfl, rfl⟩]
  · rw [gi_i, if_neg (by omega), gi_c, if_pos ⟨rfl, by omega⟩]
    exact c2 k hk
theorem x_rule {n T : Nat} {s : ZSt} {a : ZA} (hn : 100 < n) (h : XX s T a) : zT (f_X_rule n s) (xP (sRule a).1 T (sRule a).2 s) := by
  have h80 := h.1.1
  have z352 : z_isO 352 1 = true := by decide +kernel
  have z353 : z_isO 353 1 = true := by decide +kernel
  obtain ⟨t1, t2⟩ := id h.2.2.1
  generalize hr : sRule a = r
  unfold sRule at hr
  unfold f_X_rule
  rw [t1]
  refine zT.ite (fun c => ?_) (fun c => ?_)
  · have c := (nI_eq (b := 0) (by omega) (by decide)).mp c
    rw [if_pos c] at hr
    subst hr
    unfold f_E_clear
    refine zT.bnT (zT.gu z352 (zT.ltS (zT.ret (P := fun t => t = si s 352 2 0) rfl))) ?_
    rintro _ rfl
    have hE : zE p352 s (si s 352 2 0) := (zE.refl _ _).wi rfl
    exact zT.ret ⟨rfl, p352_xo hE, h.rul hE wf_nil ⟨by rw [gi_i, if_pos ⟨rfl, rfl⟩]; rfl, fun k hk => absurd hk (Nat.not_lt_zero _)⟩ (List.length_eq_zero_iff.mp c)⟩
  · have c : a.1.1.length ≠ 0 := fun w => c (by rw [w]; rfl)
    rw [if_neg c] at hr
    rw [show (40 : Int32) = nI 40 from rfl]
    refine zT.bnT (x_parse (most := 40) (two := false) hn h80 (by decide) ⟨t1, t2⟩) ?_
    rintro ⟨_, s2⟩ ⟨hE2, g3, rfl, g5⟩
    dsimp only at *
    have hX2 := h.tr0 hE2 g3
    obtain ⟨B1, B2⟩ := gBk_sp (tx := lF a.1.1) (to := min a.1.1.length 40) false (by omega)
    by_cases w : gdP (lF a.1.1) (min a.1.1.length 40) a.1.1.length 40 false = true
    · rw [if_pos w] at hr ⊢
      subst hr
      have hok : (gBk (lF a.1.1) (min a.1.1.length 40) false).1 = true := by unfold gdP at w; rw [Bool.and_eq_true] at w; exact w.1
      obtain ⟨w1, _⟩ := B2 hok
      refine zT.it rfl (zT.bnT (e_copy z352 z353 w1.1 (by omega) (g5 w).1) ?_)
      rintro s3 ⟨hE3, hc3⟩
      exact zT.ret ⟨rfl, (ppr_xo hE2).trans (p352_xo hE3), hX2.rul hE3 w1 hc3 rfl⟩
    · rw [if_neg w] at hr ⊢
      subst hr
      exact zT.ie (nI_nm1 (by omega)) (zT.ret ⟨rfl, ppr_xo hE2, hX2⟩)
end Z96
