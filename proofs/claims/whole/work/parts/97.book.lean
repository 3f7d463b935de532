-- book in the reference
section Z97
def aB0 (a : ZA) (b : Nat) (fi : List Int32) (w : Nat) (se : List Int32) (nb' : Nat) (lim' : Nat → Int32) : ZA := (([], a.1.2.1, a.1.2.2), (nb', ups a.2.1.2.1 b fi, ups a.2.1.2.2.1 b se, ups a.2.1.2.2.2.1 b w, lim', a.2.1.2.2.2.2.2), a.2.2.1, a.2.2.2.1, a.2.2.2.2)
def aStl (a : ZA) (b : Nat) : ZA := if tof a.2.2.2.1.1 b < 3 then putA a (ups a.2.2.2.1.1 (tof a.2.2.2.1.1 b) (stt (aD a) a.2.1.1 (tof a.2.2.2.1.1 b) (a.2.2.2.1.1 (tof a.2.2.2.1.1 b)))) a.2.2.2.1.2.1 else a
abbrev isNew (x : Int32) (a : ZA) : Prop := x = 12 ∧ a.2.1.1 < 12
noncomputable def sBook (x : Int32) (a : ZA) : Int32 × ZA :=
  if h : isNew x a then
    (if gdP (lF a.1.1) (min a.1.1.length 60) a.1.1.length 60 true = true then (nI a.2.1.1, aStl (aB0 a a.2.1.1 (gBk (lF a.1.1) (min a.1.1.length 60) true).2.2.1 (gBk (lF a.1.1) (min a.1.1.length 60) true).2.2.2.1 (gBk (lF a.1.1) (min a.1.1.length 60) true).2.2.2.2 (a.2.1.1 + 1) (ups a.2.1.2.2.2.2.1 a.2.1.1 99)) a.2.1.1)
    else (-1 - nI (gBk (lF a.1.1) (min a.1.1.length 60) true).2.1, aTR a a.1.2.1))
  else if inb x a.2.1.1 = true then
    (if gdP (lF a.1.1) (min a.1.1.length 60) a.1.1.length 60 true = true then (nI x.toNatClampNeg, aStl (aB0 a x.toNatClampNeg (gBk (lF a.1.1) (min a.1.1.length 60) true).2.2.1 (gBk (lF a.1.1) (min a.1.1.length 60) true).2.2.2.1 (gBk (lF a.1.1) (min a.1.1.length 60) true).2.2.2.2 a.2.1.1 a.2.1.2.2.2.2.1) x.toNatClampNeg)
    else (-1 - nI (gBk (lF a.1.1) (min a.1.1.length 60) true).2.1, aTR a a.1.2.1))
  else (-100, aTR a a.1.2.1)
theorem okF_mono {nb nb' : Nat} {f : Nat → Nat} (h : okF nb f) (hn : nb ≤ nb') : okF nb' f := ⟨fun t ht => Nat.lt_of_lt_of_le (h.1 t ht) (Nat.pow_le_pow_right (by decide) hn), h.2⟩
theorem okSt_mono {nb nb' nr : Nat} {S : ZS} (h : okSt nb nr S) (hn : nb ≤ nb') : okSt nb' nr S := ⟨okF_mono h.1 hn, fun b hb => h.2.1 b (by omega), fun r hr => ⟨Nat.lt_of_lt_of_le (h.2.2.1 r hr).1 (Nat.pow_le_pow_right (by decide) hn), (h.2.2.1 r hr).2⟩, h.2.2.2⟩
theorem okA_B0 {a : ZA} (h : okA a) {b w nb' : Nat} {fi se : List Int32} {lim' : Nat → Int32} (hn : a.2.1.1 ≤ nb') (h12 : nb' ≤ 12) : okA (aB0 a b fi w se nb' lim') := by
  obtain ⟨h1, h2, h3, h4, h5, h6, h7, h8, h9⟩ := h
  exact ⟨Nat.zero_le _, h2, h3, h12, h5, h6, fun r hr => ⟨(h7 r hr).1, Nat.lt_of_lt_of_le (h7 r hr).2 (Nat.pow_le_pow_right (by decide) hn)⟩, okSt_mono h8 hn, fun i S m hi hK => ⟨okSt_mono (h9 i S m hi hK).1 hn, (h9 i S m hi hK).2⟩⟩
theorem okA_Stl {a : ZA} (h : okA a) (b : Nat) : okA (aStl a b) := by
  unfold aStl
  split
  · exact okA_f h (up_ok (okS_f h))
  · exact h
/-- what the reference changes where a book is told -/
def pbk (b : Nat) : Nat → Nat → Bool := fun o j => (o == 0 && j == 3) || ((o == 104 || o == 105 || o == 106) && j == b) || plq (2 * b) o j || plq (2 * b + 1) o j
theorem MA.bk {s t : ZSt} {a : ZA} {b w nb' : Nat} {fi se : List Int32} {lim' : Nat → Int32} (h : MA s a) (h0 : a.1.1 = []) (hn : a.2.1.1 ≤ nb') (hn2 : nb' ≤ a.2.1.1 + 1) (h12 : nb' ≤ 12) (hb : b < nb') (hbn : a.2.1.1 < nb' → b = a.2.1.1) (hE : zE (pbk b) s t)
    (g3 : gi t 0 3 = nI nb') (c1 : codeM t (2 * b) fi) (c2 : codeM t (2 * b + 1) se) (w1 : wfL fi) (w2 : wfL se) (g6 : gi t 106 b = nI w) (hw : w ≤ 6) (g4 : ∀ q, q < nb' → gi t 104 q = lim' q) (g5 : gi t 105 b = a.2.2.2.1.2.1 b) : MA t (aB0 a b fi w se nb' lim') := by
  obtain ⟨hA, hC, h2, h3, h4, h5, h6, h7⟩ := h
  have hA' := okA_B0 (b := b) (w := w) (fi := fi) (se := se) (lim' := lim') hA hn h12
  have hb12 : b < 12 := by omega
  refine ⟨hA', ?_, ⟨by have := (hE.i (show pbk b 0 18 = false by simp [pbk, plq])).trans h2.1; rw [h0] at this; exact this, fun k hk => absurd hk (Nat.not_lt_zero _)⟩, ⟨(hE.i (by simp [pbk, plq]; omega)).trans h3.1, fun k hk => (hE.i (by simp [pbk, plq]; omega)).trans (h3.2 k hk)⟩, h4.fr hE ⟨by simp [pbk, plq], fun _ => by simp [pbk, plq]⟩, h5.fr hE (fun _ => ⟨by simp [pbk, plq], by simp [pbk, plq], by simp [pbk, plq]⟩), h6.fr hE ⟨by simp [pbk, plq], by simp [pbk, plq], fun _ => by simp [pbk, plq]⟩, MKs.fr h7 hE (fun _ => ⟨by simp [pbk, plq], by simp [pbk, plq]⟩)⟩
  · obtain ⟨q1, q2, q3, q4, q5, q6⟩ := hC
    obtain ⟨r1, r2, r3, r4, r5, r6⟩ := q1
    refine ⟨⟨g3, h12, (hE.i (by simp [pbk, plq])).trans r3, r4, fun r hr => ⟨(hE.i (by simp [pbk, plq])).trans (r5 r hr).1, (r5 r hr).2⟩, fun q hq => ?_⟩, g4, fun q hq => ?_, fun t ht => ⟨(hE.i (by simp [pbk, plq])).trans (q4 t ht).1, (q4 t ht).2⟩, fun t ht => (hE.i (by simp [pbk, plq])).trans (q5 t ht), okF_mono q6 hn⟩
    · show codeM t (2 * q) (ups a.2.1.2.1 b fi q) ∧ codeM t (2 * q + 1) (ups a.2.1.2.2.1 b se q) ∧ wfL (ups a.2.1.2.1 b fi q) ∧ wfL (ups a.2.1.2.2.1 b se q) ∧ gi t 106 q = nI (ups a.2.1.2.2.2.1 b w q) ∧ ups a.2.1.2.2.2.1 b w q ≤ 6 ∧ _ = _
      by_cases e : q = b
      · subst e
        rw [ups_s, ups_s, ups_s]
        exact ⟨c1, c2, w1, w2, g6, hw, rfl⟩
      · rw [ups_n _ _ e, ups_n _ _ e, ups_n _ _ e]
        have hq : q < nb' := hq
        have hqn : q < a.2.1.1 := by
          rcases Nat.lt_or_ge q a.2.1.1 with z | z
          · exact z
          · have := hbn (by omega); omega
        obtain ⟨f1, f2, f3, f4, f5, f6, f7⟩ := r6 q hqn
        have l1 : (a.2.1.2.1 q).length ≤ 60 := f3.1
        have l2 : (a.2.1.2.2.1 q).length ≤ 60 := f4.1
        have cm : ∀ (u : Nat) (l : List Int32), u ≠ 2 * b → u ≠ 2 * b + 1 → l.length ≤ 60 → codeM s u l → codeM t u l := fun u l hu1 hu2 hl hc => ⟨(hE.i (by simp [pbk, plq]; omega)).trans hc.1, fun k hk => (hE.i (by simp [pbk, plq]; omega)).trans (hc.2 k hk)⟩
        exact ⟨cm _ _ (by omega) (by omega) l1 f1, cm _ _ (by omega) (by omega) l2 f2, f3, f4, (hE.i (by simp [pbk, plq]; omega)).trans f5, f6, rfl⟩
    · by_cases e : q = b
      · subst e; exact g5
      · exact (hE.i (by simp [pbk, plq]; omega)).trans (q3 q hq)
theorem pbk_mo {b : Nat} {s t : ZSt} (h : zE (pbk b) s t) : zE pMo s t := h.mono (fun o j e => by simp [pMo, pbk, plq] at *; omega)
theorem m_stl {n b : Nat} {s : ZSt} {a : ZA} {α : Type} {P : α → Prop} {k : ZSt → Option α} (hn : 60 < n) (h : MA s a) (hb : b < a.2.1.1) (hk : ∀ t, zE pMo s t → MA t (aStl a b) → zT (k t) P) :
    zT (bn (f_M_tableOf n (nI b) s) (fun p16 => (if p16 < 0 then k s else gd (inb p16 3) (bn (f_M_settled n p16 (ai s 108 p16) s) (fun p19 => lt (sai p19.2 108 p16 p19.1) (fun s20 => k s20)))))) P := by
  have hnb := h.1.2.2.2.1
  refine zT.bnE (m_tableOf (by omega) h.2.1.2.2.2.2.1 ((okS_f h.1).S hnb) (by omega)) ?_
  refine zT.ite (fun c => ?_) (fun c => ?_)
  · rw [tI_neg] at c
    refine hk s (zE.refl _ _) ?_
    unfold aStl
    rw [if_neg c]
    exact h
  · have c3 : tof a.2.2.2.1.1 b < 3 := by
      rcases Nat.lt_or_ge (tof a.2.2.2.1.1 b) 3 with w | w
      · exact w
      · exact absurd ((tI_neg _).mpr (by omega)) c
    generalize ht : tof a.2.2.2.1.1 b = t at c3 ⊢
    rw [tI_lt c3]
    refine zT.gu (inb_n c3 (by decide)) ?_
    rw [ai_n _ _ (by omega), h.2.1.2.2.2.2.1 t c3]
    refine zT.bnT (m_settled hn h.2.1.1 ((okS_f h.1).1 t c3)) ?_
    rintro ⟨_, u⟩ ⟨rfl, hE⟩
    dsimp only at *
    rw [sai_n _ _ _ (by omega)]
    have hEu : zE pact s (si u 108 t (nI (sto (fun x => mmk (dD a.2.1 a.2.2.1 a.2.2.2.1) t x a.2.1.1) (a.2.2.2.1.1 t)))) := (le_act hE).wi rfl
    refine zT.ltS (hk _ (pact_mo hEu) ?_)
    unfold aStl
    rw [ht, if_pos c3]
    have hok := up_ok (D := aD a) (t := t) (okS_f h.1)
    refine h.put hEu (fun o j e1 e2 => by simp [qM, pact] at *; omega) (okA_f h.1 hok) (MK.put h.2.1 hEu (fun u hu => ?_) hok)
    show gi (si _ 108 t _) 108 u = nI (ups a.2.2.2.1.1 t (stt (aD a) a.2.1.1 t (a.2.2.2.1.1 t)) u)
    rw [gi_i, ups_i]
    by_cases e : u = t
    · rw [if_pos ⟨rfl, e⟩, if_pos e]; rfl
    · rw [if_neg (fun w => e w.2), if_neg e, hE.i rfl]
      exact h.2.1.2.2.2.2.1 u hu
theorem m_tk {tx : Nat → Int32} {to b : Nat} {s : ZSt} (h1 : gi s 0 19 = nI b) (h2 : gi s 0 20 = nI to) (h3 : ∀ k, k < to → gi s 117 k = tx k) (hb : b ≤ to) (ht : to ≤ 60) (c : Int32) : f_M_takes c s = some (gis tx to c b, si s 0 19 (nI (if gis tx to c b = true then b + 1 else b))) := by
  apply zT.eq
  unfold f_M_takes
  refine zT.jnQ (fun y => y = gis tx to c b) ?_ ?_
  · rintro _ rfl
    rw [h1]
    have e : nI b + f_M_flag (gis tx to c b) = nI (if gis tx to c b = true then b + 1 else b) := by
      rw [flag_t, nI_add]
      cases gis tx to c b <;> rfl
    rw [e]
    exact zT.ltS (zT.ret rfl)
  intro j3 hj3
  refine zT.jnQ (fun _ => gis tx to c b = false) (fun _ q => hj3 _ q.symm) ?_
  intro j5 hj5
  rw [h1, h2]
  refine zT.ite (fun q => hj5 () ?_) (fun q => ?_)
  · rw [nI_leI (by omega) (by omega)] at q
    unfold gis; rw [decide_eq_false (by omega), Bool.false_and]
  · rw [nI_leI (by omega) (by omega)] at q
    have hlt : b < to := by omega
    refine zT.gu (inb_n (by omega) (by decide)) ?_
    rw [ai_n _ _ (by omega), h3 b hlt]
    refine zT.ite (fun q2 => hj3 _ ?_) (fun q2 => hj5 () ?_)
    · rw [gis_b hlt, decide_eq_true q2]
    · rw [gis_b hlt, decide_eq_false q2]
theorem in4954 (v : Int32) : f_M_in v.toInt64 (49 : Int64) (54 : Int64) = decide (49 ≤ v ∧ v ≤ 54) := in_i v 49 54
/-- how the reference stands behind both its texts -/
def mbQ (s1 : ZSt) (a : ZA) (to : Nat) (x : Bool × Int32 × ZSt) : Prop :=
  x.1 = (gBk (lF a.1.1) to true).1 ∧ gi x.2.2 0 19 = nI (gBk (lF a.1.1) to true).2.1 ∧ gi x.2.2 0 20 = nI to ∧ zE pmr s1 x.2.2 ∧ gi x.2.2 0 18 = 0 ∧
  ((gBk (lF a.1.1) to true).1 = true → x.2.1 = nI (gBk (lF a.1.1) to true).2.2.2.1 ∧ codeM x.2.2 25 (gBk (lF a.1.1) to true).2.2.1 ∧ codeM x.2.2 26 (gBk (lF a.1.1) to true).2.2.2.2)
set_option maxHeartbeats 1000000 in
theorem m_texts {n to : Nat} {s1 s2 : ZSt} {a : ZA} {P : Int32 × ZSt → Prop} {j29 : Bool × Int32 × ZSt → Option (Int32 × ZSt)} (hn : 100 < n) (hto : to ≤ 60) (htl : to ≤ a.1.1.length)
    (hE2 : zE pmr s1 s2) (b18 : gi s2 0 18 = 0) (b19 : gi s2 0 19 = nI 0) (b20 : gi s2 0 20 = nI to) (b25 : gi s2 115 25 = 0) (b26 : gi s2 115 26 = 0) (btx : ∀ k, k < a.1.1.length → gi s2 117 k = lF a.1.1 k) (hj29 : ∀ x, mbQ s1 a to x → zT (j29 x) P) :
    zT (bn (fc_M_reads n (25 : Int32) s2) (fun p6 => jn j29 (fun j29 => if p6.1 = true then
            bn (f_M_takes (59 : Int32) p6.2) (fun p31 =>
              (if p31.1 = true then
              (jn (fun (x33 : Bool) =>
                  (if x33 = true then
                    gd (inb (gi p31.2 0 19) 80) (
                      lt ((ai p31.2 117 (gi p31.2 0 19)) - (48 : Int32)) (fun v36 =>
                      lt (si p31.2 0 19 ((gi p31.2 0 19) + (1 : Int32))) (fun s37 =>
                      bn (f_M_takes (59 : Int32) s37) (fun p38 =>
                      (jn (fun (x39 : Bool × ZSt) =>
                        j29 (x39.1, v36, x39.2)) (fun j40 =>
                        jn (fun (x41 : ZSt) =>
                        j40 (false, x41)) (fun j42 =>
                        if p38.1 = true then
                      bn (fc_M_reads n (26 : Int32) p38.2) (fun p44 =>
                        (if p44.1 = true then
                        j40 (true, p44.2)
                      else j42 p44.2))
                    else j42 p38.2)))))))
                  else j29 (x33, (0 : Int32), p31.2))) (fun j46 =>
                  jn (fun (x47 : Unit) =>
                  j46 false) (fun j48 =>
                  if (gi p31.2 0 20) ≤ (gi p31.2 0 19) then
                j48 ()
              else gd (inb (gi p31.2 0 19) 80) (
                  (if (f_M_in ((ai p31.2 117 (gi p31.2 0 19)).toInt64) (49 : Int64) (54 : Int64)) = true then
                  j46 true
                else j48 ())))))
            else j29 (p6.1, (0 : Int32), p31.2)))
          else j29 (p6.1, (0 : Int32), p6.2)))) P := by
  have eB : gBk (lF a.1.1) to true = gB2 (lF a.1.1) to := by unfold gBk; rw [if_pos rfl]
  have h80 : ∀ k, k < to → gi s2 117 k = lF a.1.1 k := fun k hk => btx k (by omega)
  generalize hB : gBk (lF a.1.1) to true = B
  have hmb : ∀ x, (x.1 = B.1 ∧ gi x.2.2 0 19 = nI B.2.1 ∧ gi x.2.2 0 20 = nI to ∧ zE pmr s1 x.2.2 ∧ gi x.2.2 0 18 = 0 ∧ (B.1 = true → x.2.1 = nI B.2.2.2.1 ∧ codeM x.2.2 25 B.2.2.1 ∧ codeM x.2.2 26 B.2.2.2.2)) → zT (j29 x) P := fun x hx => hj29 x (by unfold mbQ; rw [hB]; exact hx)
  clear hj29
  rw [eB] at hB
  unfold gB2 at hB
  rw [show (25 : Int32) = nI 25 from rfl]
  refine zT.bnT (m_whole (tx := lF a.1.1) hn hto (Nat.zero_le _) (Or.inl rfl) b19 b20 h80 b25) ?_
  rintro ⟨_, s3⟩ ⟨rfl, hE3, k19, kc⟩
  dsimp only at *
  refine zT.jnQ _ hmb ?_
  clear hmb
  intro j29 hmb
  obtain ⟨R1, R2, _⟩ := gRc_B (tx := lF a.1.1) (to := to) 4 0 (Nat.zero_le _)
  have hE23 : zE pmr s1 s3 := hE2.trans (hE3.mono (fun o j e => by simp [pmr] at *; omega))
  have k20 : gi s3 0 20 = nI to := (hE3.i rfl).trans b20
  have k18 : gi s3 0 18 = 0 := (hE3.i rfl).trans b18
  have k26 : gi s3 115 26 = 0 := (hE3.i rfl).trans b26
  have ktx : ∀ k, k < to → gi s3 117 k = lF a.1.1 k := fun k hk => (hE3.i rfl).trans (h80 k hk)
  refine zT.ite (fun c1 => ?_) (fun c1 => ?_)
  rotate_left
  · rw [if_neg c1] at hB
    have c1' : (gRc (lF a.1.1) to 4 0).1 = false := by cases w : (gRc (lF a.1.1) to 4 0).1; rfl; exact absurd w c1
    subst hB
    exact hmb _ ⟨c1', k19, k20, hE23, k18, fun w => by cases w⟩
  rw [if_pos c1] at hB
  generalize hb1 : (gRc (lF a.1.1) to 4 0).2.1 = b at hB k19 R1 R2
  generalize hm1 : (gRc (lF a.1.1) to 4 0).2.2 = m1 at hB kc R1
  refine zT.bnE (m_tk k19 k20 ktx R2 hto 59) ?_
  dsimp only
  refine zT.ite (fun c2 => ?_) (fun c2 => ?_)
  rotate_left
  · have c2' : gis (lF a.1.1) to 59 b = false := by cases w : gis (lF a.1.1) to 59 b; rfl; exact absurd w c2
    rw [c2', if_neg (by decide)] at hB
    rw [c2', if_neg (by decide)]
    subst hB
    refine hmb _ ⟨c1, rfl, k20, hE23.wi rfl, k18, fun _ => ⟨rfl, kc, ⟨k26, fun k hk => absurd hk (Nat.not_lt_zero _)⟩⟩⟩
  rw [if_pos c2] at hB ⊢
  have hlt := (gis_lt c2).1
  have hE4 : zE pmr s1 (si s3 0 19 (nI (b + 1))) := hE23.wi rfl
  have q19 : gi (si s3 0 19 (nI (b + 1))) 0 19 = nI (b + 1) := rfl
  have q20 : gi (si s3 0 19 (nI (b + 1))) 0 20 = nI to := k20
  have q18 : gi (si s3 0 19 (nI (b + 1))) 0 18 = 0 := k18
  have q26 : gi (si s3 0 19 (nI (b + 1))) 115 26 = 0 := k26
  have qtx : ∀ k, k < to → gi (si s3 0 19 (nI (b + 1))) 117 k = lF a.1.1 k := ktx
  have qc : codeM (si s3 0 19 (nI (b + 1))) 25 m1 := kc
  generalize si s3 0 19 (nI (b + 1)) = s4 at hE4 q19 q20 q18 q26 qtx qc ⊢
  refine zT.jnQ (fun x => x = gsx (lF a.1.1) to (b + 1)) ?_ ?_
  rotate_left
  · intro j46 hj46
    refine zT.jnQ (fun _ => gsx (lF a.1.1) to (b + 1) = false) (fun _ w => hj46 _ w.symm) ?_
    intro j48 hj48
    rw [q19, q20]
    refine zT.ite (fun w => hj48 () ?_) (fun w => ?_)
    · rw [nI_leI (by omega) (by omega)] at w
      unfold gsx; rw [decide_eq_false (by omega), Bool.false_and]
    · rw [nI_leI (by omega) (by omega)] at w
      have e : gsx (lF a.1.1) to (b + 1) = decide (49 ≤ lF a.1.1 (b + 1) ∧ lF a.1.1 (b + 1) ≤ 54) := by unfold gsx; rw [decide_eq_true (show b + 1 < to by omega), Bool.true_and, Bool.decide_and]
      refine zT.gu (inb_n (by omega) (by decide)) ?_
      rw [ai_n _ _ (by omega), qtx _ (by omega), in4954]
      refine zT.ite (fun w2 => hj46 _ (by rw [e]; exact w2.symm)) (fun w2 => hj48 () ?_)
      rw [e]; cases z : decide (49 ≤ lF a.1.1 (b + 1) ∧ lF a.1.1 (b + 1) ≤ 54); rfl; exact absurd z w2
  rintro _ rfl
  refine zT.ite (fun c3 => ?_) (fun c3 => ?_)
  rotate_left
  · have c3' : gsx (lF a.1.1) to (b + 1) = false := by cases w : gsx (lF a.1.1) to (b + 1); rfl; exact absurd w c3
    rw [c3', if_neg (by decide)] at hB
    rw [c3']
    subst hB
    exact hmb _ ⟨rfl, q19, q20, hE4, q18, fun w => by cases w⟩
  rw [if_pos c3] at hB
  obtain ⟨hlt2, w, _, hw, ew⟩ := gsx_lt c3
  rw [q19]
  refine zT.gu (inb_n (by omega) (by decide)) ?_
  rw [ai_n _ _ (by omega), qtx _ hlt2, nI_1]
  refine zT.ln (fun v36 hv36 => zT.ltS ?_)
  have ev : v36 = nI w := by rw [hv36, ew, show (48 : Int32) = nI 48 from rfl, pk_sub (by omega)]; congr 1; omega
  have ew2 : (lF a.1.1 (b + 1) - 48).toNatClampNeg = w := by rw [← hv36, ev, nI_clamp (by omega)]
  rw [ew2] at hB
  have hE5 : zE pmr s1 (si s4 0 19 (nI (b + 2))) := hE4.wi rfl
  refine zT.bnE (m_tk (s := si s4 0 19 (nI (b + 2))) (b := b + 2) rfl q20 qtx (by omega) hto 59) ?_
  dsimp only
  refine zT.jnQ (fun x => x.1 = B.1 ∧ gi x.2 0 19 = nI B.2.1 ∧ gi x.2 0 20 = nI to ∧ zE pmr s1 x.2 ∧ gi x.2 0 18 = 0 ∧ (B.1 = true → v36 = nI B.2.2.2.1 ∧ codeM x.2 25 B.2.2.1 ∧ codeM x.2 26 B.2.2.2.2)) (fun x hx => hmb _ hx) ?_
  intro j40 hj40
  refine zT.jnQ (fun x => B.1 = false ∧ gi x 0 19 = nI B.2.1 ∧ gi x 0 20 = nI to ∧ zE pmr s1 x ∧ gi x 0 18 = 0) ?_ ?_
  · rintro x ⟨z1, z2, z3, z4, z5⟩
    exact hj40 _ ⟨z1.symm, z2, z3, z4, z5, fun z => by rw [z1] at z; cases z⟩
  intro j42 hj42
  refine zT.ite (fun c4 => ?_) (fun c4 => ?_)
  rotate_left
  · have c4' : gis (lF a.1.1) to 59 (b + 2) = false := by cases w : gis (lF a.1.1) to 59 (b + 2); rfl; exact absurd w c4
    rw [c4', if_neg (by decide)] at hB
    rw [c4', if_neg (by decide)]
    subst hB
    exact hj42 _ ⟨rfl, rfl, q20, hE5.wi rfl, q18⟩
  rw [if_pos c4] at hB ⊢
  have hlt3 := (gis_lt c4).1
  rw [show (26 : Int32) = nI 26 from rfl]
  refine zT.bnT (m_whole (tx := lF a.1.1) (p := 26) (b := b + 3) hn hto (by omega) (Or.inr rfl) rfl q20 qtx q26) ?_
  rintro ⟨_, s9⟩ ⟨rfl, hE9, n19, nc⟩
  dsimp only at *
  have hEz : zE pmr s1 s9 := (hE5.wi rfl).trans (hE9.mono (fun o j e => by simp [pmr] at *; omega))
  have n20 : gi s9 0 20 = nI to := (hE9.i rfl).trans q20
  have n18 : gi s9 0 18 = 0 := (hE9.i rfl).trans q18
  have nc1 : codeM s9 25 m1 := ⟨(hE9.i rfl).trans qc.1, fun k hk => (hE9.i (by simp; omega)).trans (qc.2 k hk)⟩
  refine zT.ite (fun c5 => ?_) (fun c5 => ?_)
  · subst hB
    exact hj40 _ ⟨c5.symm, n19, n20, hEz, n18, fun _ => ⟨ev, nc1, nc⟩⟩
  · have c5' : (gRc (lF a.1.1) to 4 (b + 3)).1 = false := by cases w : (gRc (lF a.1.1) to 4 (b + 3)).1; rfl; exact absurd w c5
    subst hB
    exact hj42 _ ⟨c5', n19, n20, hEz, n18⟩
set_option maxHeartbeats 1000000 in
theorem m_book {n : Nat} {s : ZSt} {a : ZA} (x : Int32) (hn : 100 < n) (h : MA s a) : zT (f_M_book n x s) (mP (sBook x a).1 (sBook x a).2 s) := by
  have h80 := h.1.1
  have hnb := h.1.2.2.2.1
  generalize hr : sBook x a = r
  unfold sBook at hr
  unfold f_M_book
  refine zT.ln (fun s1 hs1 => ?_)
  obtain ⟨hz, hE0, h00⟩ := mz h hs1
  clear hs1
  rw [show (60 : Int32) = nI 60 from rfl]
  refine zT.bnT (m_begins (most := 60) (by decide) hz) ?_
  rintro ⟨_, s2⟩ ⟨rfl, hE2, b18, b19, b20, b25, b26, btx⟩
  dsimp only at *
  have hto60 : min a.1.1.length 60 ≤ 60 := Nat.min_le_right _ _
  have htol : min a.1.1.length 60 ≤ a.1.1.length := Nat.min_le_left _ _
  generalize hto : min a.1.1.length 60 = to at hr b20 hto60 htol
  have hM2 := hz.tr0 hE2 b18
  have no : ¬ isNew x a → inb x a.2.1.1 = false → zT (some ((-100 : Int32), s2)) (mP r.1 r.2 s) := fun w1 w2 => by
    rw [dif_neg w1, w2, if_neg (by decide)] at hr
    subst hr
    exact zT.ret ⟨rfl, hE0.trans (pmr_mo hE2), hM2⟩
  have hin := in_lit x (n := 12) (by decide) (w := 12) (by decide)
  refine zT.ite (fun c => ?_) (fun c => ?_)
  rotate_left
  · refine no (fun w => c (hin.mpr ⟨12, by omega, w.1⟩)) ?_
    cases w : inb x a.2.1.1
    · rfl
    · obtain ⟨k, hk, e⟩ := (inb_iff (by omega)).mp w
      exact absurd (hin.mpr ⟨k, by omega, e⟩) c
  obtain ⟨k, hk, rfl⟩ := hin.mp c
  have g3 : gi s2 0 3 = nI a.2.1.1 := hM2.2.1.1.1
  have e12 : (nI k = (12 : Int32)) ↔ k = 12 := nI_eq (by omega) (by decide)
  have einb : inb (nI k) a.2.1.1 = decide (k < a.2.1.1) := by
    rw [Bool.eq_iff_iff, decide_eq_true_eq, inb_iff (by omega)]
    exact ⟨fun ⟨j, hj, e⟩ => by have := (nI_eq (by omega) (by omega)).mp e; omega, fun w => ⟨k, w, rfl⟩⟩
  refine zT.jnQ (fun _ => ¬ (k = 12 ∧ a.2.1.1 = 12)) ?_ ?_
  rotate_left
  · intro j55 hj55
    rw [g3]
    refine zT.ite (fun w => ?_) (fun w => hj55 () (fun z => w (e12.mpr z.1)))
    have w := e12.mp w
    refine zT.ite (fun w2 => ?_) (fun w2 => hj55 () (fun z => w2 (by rw [z.2]; rfl)))
    have w2 := (nI_eq (b := 12) (by omega) (by decide)).mp w2
    exact no (fun z => by have := z.2; omega) (by rw [einb]; exact decide_eq_false (by omega))
  rintro _ hne
  refine zT.jnQ (fun _ => k = 12 ∨ k < a.2.1.1) ?_ ?_
  rotate_left
  · intro j52 hj52
    rw [g3, show (12 : Int32) = nI 12 from rfl]
    refine zT.ite (fun w => ?_) (fun w => ?_)
    · rw [nI_leI (by omega) (by omega)] at w
      exact hj52 () (Or.inl (by omega))
    · rw [nI_leI (by omega) (by omega)] at w
      refine zT.ite (fun w2 => ?_) (fun w2 => ?_)
      · rw [nI_ltI (by omega) (by omega)] at w2
        exact hj52 () (Or.inr w2)
      · rw [nI_ltI (by omega) (by omega)] at w2
        exact no (fun z => by have := e12.mp z.1; omega) (by rw [einb]; exact decide_eq_false w2)
  rintro _ hkv
  -- the number
  obtain ⟨b, nb', lim', hbd⟩ : ∃ b nb' lim', (b = (if k = 12 then a.2.1.1 else k) ∧ nb' = (if k = 12 then a.2.1.1 + 1 else a.2.1.1) ∧ lim' = (if k = 12 then ups a.2.1.2.2.2.2.1 a.2.1.1 99 else a.2.1.2.2.2.2.1)) := ⟨_, _, _, rfl, rfl, rfl⟩
  have hr' : r = if gdP (lF a.1.1) to a.1.1.length 60 true = true then (nI b, aStl (aB0 a b (gBk (lF a.1.1) to true).2.2.1 (gBk (lF a.1.1) to true).2.2.2.1 (gBk (lF a.1.1) to true).2.2.2.2 nb' lim') b) else (-1 - nI (gBk (lF a.1.1) to true).2.1, aTR a a.1.2.1) := by
    obtain ⟨e1, e2, e3⟩ := hbd
    rw [← hr]
    by_cases w : k = 12
    · rw [if_pos w] at e1 e2 e3
      rw [dif_pos (show isNew (nI k) a from ⟨e12.mpr w, by omega⟩), e1, e2, e3]
    · rw [if_neg w] at e1 e2 e3
      rw [dif_neg (fun z : isNew (nI k) a => w (e12.mp z.1)), einb, decide_eq_true (show k < a.2.1.1 by omega), if_pos rfl, e1, e2, e3, nI_clamp (by omega)]
  clear hr no
  have hbn' : a.2.1.1 ≤ nb' ∧ nb' ≤ a.2.1.1 + 1 ∧ nb' ≤ 12 ∧ b < nb' ∧ (a.2.1.1 < nb' → b = a.2.1.1) := by
    obtain ⟨e1, e2, _⟩ := hbd
    by_cases w : k = 12
    · rw [if_pos w] at e1 e2; omega
    · rw [if_neg w] at e1 e2; omega
  obtain ⟨n1, n2, n3, n4, n5⟩ := hbn'
  obtain ⟨B1, B2⟩ := gBk_sp (tx := lF a.1.1) (to := to) true hto60
  refine m_texts (s1 := s1) hn hto60 htol hE2 b18 b19 b20 b25 b26 btx ?_
  rintro ⟨goes, v, y⟩ ⟨hgo, y19, y20, hEy, y18, hcod⟩
  dsimp only at *
  have hMy := hz.tr0 hEy y18
  rw [m_fault y19 y20 B1 h80 (by decide) hto.symm, hgo]
  have hgd : ((gBk (lF a.1.1) to true).1 && (decide ((gBk (lF a.1.1) to true).2.1 = to) && decide (a.1.1.length ≤ 60))) = gdP (lF a.1.1) to a.1.1.length 60 true := rfl
  rw [hgd]
  by_cases w : gdP (lF a.1.1) to a.1.1.length 60 true = true
  rotate_left
  · rw [if_neg w] at hr' ⊢
    subst hr'
    have hneg : ¬ 0 ≤ (-1 : Int32) - nI (gBk (lF a.1.1) to true).2.1 := by
      have key : ∀ k, k < 61 → ¬ 0 ≤ (-1 : Int32) - nI k := by decide +kernel
      exact key _ (by omega)
    exact zT.ltS (zT.ie hneg (zT.ret ⟨rfl, hE0.trans (pmr_mo hEy), hMy⟩))
  rw [if_pos w] at hr' ⊢
  subst hr'
  have hok : (gBk (lF a.1.1) to true).1 = true := by unfold gdP at w; rw [Bool.and_eq_true] at w; exact w.1
  obtain ⟨w1, w2, w3⟩ := B2 hok
  obtain ⟨d1, d2, d3⟩ := hcod hok
  refine zT.ltS (zT.it (by decide) ?_)
  have y3 : gi y 0 3 = nI a.2.1.1 := hMy.2.1.1.1
  have ex10 : (if nI k = (12 : Int32) then gi y 0 3 else nI k) = nI b := by
    rw [hbd.1, y3]
    by_cases z : k = 12
    · rw [if_pos (e12.mpr z), if_pos z]
    · rw [if_neg (fun q => z (e12.mp q)), if_neg z]
  rw [ex10]
  refine zT.ltS ?_
  refine zT.jnQ (fun u => zE (fun o j => (o == 0 && j == 3) || ((o == 104 || o == 105) && j == b)) y u ∧ gi u 0 3 = nI nb' ∧ (∀ q, q < nb' → gi u 104 q = lim' q) ∧ gi u 105 b = a.2.2.2.1.2.1 b) ?_ ?_
  · rintro u ⟨hEu, u3, u4, u5⟩
    refine zT.gu (inb_n (by omega) (by decide)) ?_
    rw [sai_n _ _ _ (by omega), d1]
    refine zT.ln (fun s13 hs13 => ?_)
    have hE13 : zE (fun o j => (o == 0 && j == 3) || ((o == 104 || o == 105 || o == 106) && j == b)) y s13 := by
      rw [hs13]; exact (hEu.mono (fun o j e => by simp at *; omega)).wi (by simp)
    have c25 : codeM s13 25 (gBk (lF a.1.1) to true).2.2.1 := ⟨(hE13.i (by simp)).trans d2.1, fun k hk => (hE13.i (by simp)).trans (d2.2 k hk)⟩
    have c26 : codeM s13 26 (gBk (lF a.1.1) to true).2.2.2.2 := ⟨(hE13.i (by simp)).trans d3.1, fun k hk => (hE13.i (by simp)).trans (d3.2 k hk)⟩
    rw [show (25 : Int32) = nI 25 from rfl, show (26 : Int32) = nI 26 from rfl, show (2 : Int32) = nI 2 from rfl, nI_mulL, nI_1]
    refine zT.bnT (m_lays hn (by decide) (by omega) (by omega) w1.1 c25) ?_
    rintro s14 ⟨hE14, l1⟩
    have c26' : codeM s14 26 (gBk (lF a.1.1) to true).2.2.2.2 := ⟨(hE14.i (by simp [plq]; omega)).trans c26.1, fun k hk => (hE14.i (by have := w3.1; simp [plq]; omega)).trans (c26.2 k hk)⟩
    refine zT.bnT (m_lays hn (by decide) (by omega) (by omega) w3.1 c26') ?_
    rintro s15 ⟨hE15, l2⟩
    have l1' : codeM s15 (2 * b) (gBk (lF a.1.1) to true).2.2.1 := ⟨(hE15.i (by simp [plq])).trans l1.1, fun k hk => (hE15.i (by have := w1.1; simp [plq]; omega)).trans (l1.2 k hk)⟩
    have hEb : zE (pbk b) y s15 := (hE13.mono (fun o j e => by simp [pbk] at *; omega)).trans ((hE14.mono (fun o j e => by simp [pbk] at *; simp [e])).trans (hE15.mono (fun o j e => by simp [pbk] at *; simp [e])))
    have hsub : ∀ o j, ¬ (o = 114 ∨ o = 115) → gi s15 o j = gi s13 o j := fun o j e => by
      rw [hE15.i (by simp [plq]; omega), hE14.i (by simp [plq]; omega)]
    have hM15 : MA s15 (aB0 a b (gBk (lF a.1.1) to true).2.2.1 (gBk (lF a.1.1) to true).2.2.2.1 (gBk (lF a.1.1) to true).2.2.2.2 nb' lim') := by
      refine MA.bk (a := aTR a a.1.2.1) hMy rfl n1 n2 n3 n4 n5 hEb ?_ l1' l2 w1 w3 ?_ w2 (fun q hq => ?_) ?_
      · rw [hsub _ _ (by omega), hs13, gi_i, if_neg (by omega)]; exact u3
      · rw [hsub _ _ (by omega), hs13, gi_i, if_pos ⟨rfl, rfl⟩]
      · rw [hsub _ _ (by omega), hs13, gi_i, if_neg (by omega)]; exact u4 q hq
      · rw [hsub _ _ (by omega), hs13, gi_i, if_neg (by omega)]; exact u5
    refine m_stl (k := fun t => some (nI b, t)) (by omega) hM15 n4 (fun t hE16 hM16 => zT.ret ⟨rfl, hE0.trans ((pmr_mo hEy).trans ((pbk_mo hEb).trans hE16)), hM16⟩)
  · intro j21 hj21
    have hop : k = 12 → a.2.2.2.1.2.1 a.2.1.1 = 0 := fun _ => h.1.2.2.2.2.2.2.2.1.2.1 a.2.1.1 (Nat.le_refl _)
    refine zT.ite (fun z => ?_) (fun z => ?_)
    · have z := e12.mp z
      obtain ⟨e1, e2, e3⟩ := hbd
      rw [if_pos z] at e1 e2 e3
      refine zT.gu (inb_n (by omega) (by decide)) ?_
      rw [sai_n _ _ _ (by omega)]
      refine zT.ltS ?_
      rw [sai_n _ _ _ (by omega)]
      refine zT.ltS ?_
      rw [show gi (si (si y 104 b 99) 105 b 0) 0 3 = gi y 0 3 from rfl, y3, nI_1]
      refine zT.ltS (hj21 _ ⟨((((zE.refl _ _).wi (by simp)).wi (by simp)).wi (by simp)), by rw [gi_i, if_pos ⟨rfl, rfl⟩, e2], fun q hq => ?_, ?_⟩)
      · rw [gi_i, if_neg (by omega), gi_i, if_neg (by omega), gi_i, e3, ups_i]
        by_cases eq : q = b
        · rw [if_pos ⟨rfl, eq⟩, if_pos (by omega)]
        · rw [if_neg (fun w => eq w.2), if_neg (by omega)]
          exact hMy.2.1.2.1 q (show q < a.2.1.1 by omega)
      · rw [gi_i, if_neg (by omega), gi_i, if_pos ⟨rfl, rfl⟩, e1, hop z]
    · have z : ¬ k = 12 := fun q => z (e12.mpr q)
      obtain ⟨e1, e2, e3⟩ := hbd
      rw [if_neg z] at e1 e2 e3
      exact hj21 _ ⟨zE.refl _ _, by rw [e2]; exact y3, fun q hq => by rw [e3]; exact hMy.2.1.2.1 q (show q < a.2.1.1 by omega), hMy.2.1.2.2.1 b (by omega)⟩
end Z97
