-- needs, bars, least in the class
section Z49
def pxv : Nat → Nat → Bool := fun o _ => o == 243 || o == 244 || (decide (440 ≤ o) && decide (o < 475)) || o == 203
theorem pxv_xo {s t : ZSt} (h : zE pxv s t) : zE pXo s t := h.mono (fun o j e => by simp [pXo, pxv] at *; omega)
theorem oth_t {a : ZA} {b i : Nat} : (oth a b).testBit i = (decide (i < a.2.1.1) && !decide (b = i)) := by
  unfold oth
  rw [ndf_t, Nat.testBit_two_pow_sub_one, tb2]
theorem oth_lt {a : ZA} {b : Nat} (hb : b < a.2.1.1) : oth a b < 2 ^ a.2.1.1 := lt_two_pow_of (fun i hi => by rw [oth_t, decide_eq_false (by omega)]; rfl)
theorem oth_sub {a : ZA} {b set : Nat} (hs : set < 2 ^ a.2.1.1) : ndf set (oth a b) = 0 ↔ set.testBit b = false := by
  constructor
  · intro h
    have := congrArg (fun x => x.testBit b) h
    simp only [ndf_t, oth_t, Nat.zero_testBit] at this
    simpa using this
  · intro h
    apply Nat.eq_of_testBit_eq
    intro i
    rw [ndf_t, oth_t, Nat.zero_testBit]
    by_cases e : b = i
    · rw [← e, h]; rfl
    · by_cases q : i < a.2.1.1
      · simp [q, e]
      · rw [tb_big hs (by omega)]; rfl
theorem oth_le {a : ZA} {b set : Nat} (hs : set < 2 ^ a.2.1.1) (h : set.testBit b = false) : set ≤ oth a b := by
  have e : set &&& oth a b = set := by
    apply Nat.eq_of_testBit_eq
    intro i
    rw [Nat.testBit_and, oth_t]
    by_cases e : b = i
    · rw [← e, h]; rfl
    · by_cases q : i < a.2.1.1
      · simp [q, e]
      · rw [tb_big hs (by omega)]; rfl
  rw [← e]
  exact Nat.and_le_right
theorem lks_end {a : ZA} {b t : Nat} (hb : b < a.2.1.1) : lks a b t (2 ^ a.2.1.1) = lks a b t (oth a b + 1) := by
  have hlt := oth_lt (a := a) hb
  have key : ∀ m, oth a b + 1 + m ≤ 2 ^ a.2.1.1 → lks a b t (oth a b + 1 + m) = lks a b t (oth a b + 1) := by
    intro m
    induction m with
    | zero => intro _; rfl
    | succ m ih =>
      intro hm
      rw [show oth a b + 1 + (m + 1) = (oth a b + 1 + m) + 1 by omega, lks_s, if_neg, ih (by omega)]
      unfold lok
      cases q : (oth a b + 1 + m).testBit b
      · have := oth_le (a := a) (b := b) (by omega) q
        omega
      · simp
  have := key (2 ^ a.2.1.1 - (oth a b + 1)) (by omega)
  rwa [show oth a b + 1 + (2 ^ a.2.1.1 - (oth a b + 1)) = 2 ^ a.2.1.1 by omega] at this
/-- the survey holds what has been looked at -/
def Svy (s : ZSt) (l : Nat × Nat × Nat × Nat) : Prop := gi s 203 0 = nI l.1 ∧ gi s 203 1 = nI l.2.1 ∧ gi s 203 2 = (if l.2.2.2 = 0 then 12 else nI (pcn l.2.2.1)) ∧ gi s 203 3 = (if l.2.2.2 = 0 then 0 else nI l.2.2.1) ∧ gi s 203 4 = nI l.2.2.2
theorem Svy.on {s t : ZSt} {l : Nat × Nat × Nat × Nat} (h : Svy s l) (hE : zE pmb s t) : Svy t l := ⟨(hE.i rfl).trans h.1, (hE.i rfl).trans h.2.1, (hE.i rfl).trans h.2.2.1, (hE.i rfl).trans h.2.2.2.1, (hE.i rfl).trans h.2.2.2.2⟩
theorem v_take {s : ZSt} {a : ZA} {b t k : Nat} (hk : k < 4096) (hl : lok a b t k = true) (h6 : a.2.1.2.2.2.2.2 t ≤ 6) (hb : (lks a b t k).2.2.1 < 4096 ∧ (lks a b t k).2.2.2 ≤ 4096) (h : Svy s (lks a b t k)) : zT (f_V_take (nI k) s) (fun u => zE (fun o _ => o == 203) s u ∧ Svy u (lks a b t (k + 1))) := by
  obtain ⟨g0, g1, g2, g3, g4⟩ := h
  have hpk := pcn_le k
  have hpl := pcn_le (lks a b t k).2.2.1
  have hpk6 : pcn k < 6 := by
    unfold lok at hl
    rw [Bool.and_eq_true, Bool.and_eq_true, decide_eq_true_eq] at hl
    omega
  unfold f_V_take
  rw [bc_n _ hk, g0, nI_and]
  refine zT.ltS (zT.ltS ?_)
  rw [show gi (si s 203 0 (nI ((lks a b t k).1 &&& k))) 203 1 = gi s 203 1 from rfl, g1, nI_or]
  refine zT.ln (fun s3 hs3 => ?_)
  have f0 : gi s3 203 0 = nI ((lks a b t k).1 &&& k) := by rw [hs3]; rfl
  have f1 : gi s3 203 1 = nI ((lks a b t k).2.1 ||| k) := by rw [hs3]; rfl
  have f2 : gi s3 203 2 = (if (lks a b t k).2.2.2 = 0 then 12 else nI (pcn (lks a b t k).2.2.1)) := by rw [hs3]; exact g2
  have f3 : gi s3 203 3 = (if (lks a b t k).2.2.2 = 0 then 0 else nI (lks a b t k).2.2.1) := by rw [hs3]; exact g3
  have f4 : gi s3 203 4 = nI (lks a b t k).2.2.2 := by rw [hs3]; exact g4
  have hE : zE (fun o _ => o == 203) s s3 := by rw [hs3]; exact ((zE.refl _ _).wi rfl).wi rfl
  clear hs3
  have hle : gi s3 203 2 ≤ nI (pcn k) ↔ ¬ ((lks a b t k).2.2.2 = 0 ∨ pcn k < pcn (lks a b t k).2.2.1) := by
    rw [f2]
    by_cases q : (lks a b t k).2.2.2 = 0
    · rw [if_pos q, show (12 : Int32) = nI 12 from rfl, nI_leI (by omega) (by omega)]
      exact ⟨fun w => by omega, fun w => absurd (Or.inl q) w⟩
    · rw [if_neg q, nI_leI (by omega) (by omega)]; omega
  refine zT.jnQ (fun y => zE (fun o _ => o == 203) s y ∧ gi y 203 0 = nI ((lks a b t k).1 &&& k) ∧ gi y 203 1 = nI ((lks a b t k).2.1 ||| k) ∧ (if (lks a b t k).2.2.2 = 0 ∨ pcn k < pcn (lks a b t k).2.2.1 then gi y 203 2 = nI (pcn k) ∧ gi y 203 3 = nI k ∧ gi y 203 4 = 0 else gi y 203 2 = nI (pcn (lks a b t k).2.2.1) ∧ gi y 203 3 = nI (lks a b t k).2.2.1 ∧ gi y 203 4 = nI (lks a b t k).2.2.2)) ?_ ?_
  · rintro y ⟨q1, q2, q3, q4⟩
    rw [lks_s, if_pos hl]
    by_cases q : (lks a b t k).2.2.2 = 0 ∨ pcn k < pcn (lks a b t k).2.2.1
    · simp only [if_pos q] at q4 ⊢
      rw [q4.1, q4.2.2]
      refine zT.it rfl (zT.ltS (zT.ret ⟨q1.wi rfl, q2, q3, ?_, ?_, rfl⟩))
      · dsimp only; rw [if_neg (by decide)]; exact q4.1
      · dsimp only; rw [if_neg (by decide)]; exact q4.2.1
    · simp only [if_neg q] at q4 ⊢
      rw [q4.1, q4.2.2]
      by_cases q5 : pcn k = pcn (lks a b t k).2.2.1
      · simp only [if_pos q5]
        refine zT.it (by rw [q5]) ?_
        rw [nI_1]
        refine zT.ltS (zT.ret ⟨q1.wi rfl, q2, q3, ?_, ?_, rfl⟩)
        · dsimp only; rw [if_neg (by omega)]; exact q4.1
        · dsimp only; rw [if_neg (by omega)]; exact q4.2.1
      · simp only [if_neg q5]
        have q0 : ¬ (lks a b t k).2.2.2 = 0 := fun w => q (Or.inl w)
        refine zT.ie (fun w => q5 ((nI_eq (by omega) (by omega)).mp w)) (zT.ret ⟨q1, q2, q3, ?_, ?_, q4.2.2⟩)
        · dsimp only; rw [if_neg q0]; exact q4.1
        · dsimp only; rw [if_neg q0]; exact q4.2.1
  · intro j7 hj7
    refine zT.ite (fun c => ?_) (fun c => ?_)
    · have c := hle.mp c
      simp only [if_neg c] at hj7
      have q0 : ¬ (lks a b t k).2.2.2 = 0 := fun w => c (Or.inl w)
      rw [if_neg q0] at f2 f3
      exact hj7 _ ⟨hE, f0, f1, f2, f3, f4⟩
    · have c : (lks a b t k).2.2.2 = 0 ∨ pcn k < pcn (lks a b t k).2.2.1 := Classical.byContradiction (fun w => c (hle.mpr w))
      simp only [if_pos c] at hj7
      exact zT.ltS (zT.ltS (zT.ltS (hj7 _ ⟨((hE.wi rfl).wi rfl).wi rfl, f0, f1, rfl, rfl, rfl⟩)))
theorem t_all {s : ZSt} {nb : Nat} (h3 : gi s 201 2 = nI nb) (hnb : nb ≤ 12) : f_T_all s = nI (2 ^ nb - 1) := by
  have hp : 0 < 2 ^ nb := Nat.pos_of_ne_zero (by simp)
  unfold f_T_all
  rw [h3, shI_n (by omega), show (1 : Int32) = nI 1 from rfl, pk_sub hp]
theorem x_look {n b t T st : Nat} {s : ZSt} {a : ZA} (hn : 5000 < n) (hA : okA a) (hst : st ≤ T + 1) (hB : XB s st a) (hO : XO s T a) (hb : b < a.2.1.1) (ht : t < 3) : zT (f_X_look n (nI b) (nI t) s) (fun u => zE pxv s u ∧ XX u T a ∧ Svy u (lks a b t (2 ^ a.2.1.1))) := by
  have hnb := hA.2.2.2.1
  have h12 := pw_12 hnb
  have hol := oth_lt (a := a) hb
  unfold f_X_look
  rw [t_all hB.1.1.1 hnb, shI_n (by omega), nI_andn]
  rw [show ndf (2 ^ a.2.1.1 - 1) (2 ^ b) = oth a b from rfl]
  refine zT.ltS ?_
  unfold f_V_begin
  refine zT.bi (zT.ltS (zT.ltS (zT.ltS (zT.ltS (zT.ltS (zT.ret ?_))))))
  refine zT.cnt (oth a b + 1) (fun k x => x.1 = nI k ∧ zE pxv s x.2 ∧ XK x.2 a.2.1.1 (aD a) a.2.1.2.2.2.2.2 st ∧ Svy x.2 (lks a b t k)) (by omega) ⟨rfl, (((((zE.refl _ _).wi rfl).wi rfl).wi rfl).wi rfl).wi rfl, ?_, ⟨rfl, rfl, rfl, rfl, rfl⟩⟩ ?_
  · have hE : zE (fun o _ => o == 203) s (si (si (si (si (si s 203 0 (nI (oth a b))) 203 1 0) 203 2 12) 203 3 0) 203 4 0) := (((((zE.refl _ _).wi rfl).wi rfl).wi rfl).wi rfl).wi rfl
    exact (XA.fr2 hB hE ⟨⟨rfl, fun b hb => ⟨by simp <;> omega, by simp <;> omega, by simp <;> omega, by simp <;> omega, fun k => by simp <;> omega, fun k => by simp <;> omega⟩, fun t => rfl⟩, rfl, fun b hb => ⟨by simp <;> omega, by simp <;> omega⟩, rfl, fun j => ⟨rfl, rfl⟩⟩).1
  · rintro j k ⟨_, u⟩ hk ⟨rfl, hE, hK, hS⟩ hj
    dsimp only at *
    refine zT.ite (fun c => ?_) (fun c => ?_)
    · rw [nI_ltI (by omega) (by omega)] at c
      have e : k = oth a b + 1 := by omega
      subst e
      rw [← lks_end hb] at hS
      exact zT.ret ⟨hE, XX.mb hA hst hB hO hE (fun o j e => by simp [qX, pxv] at *; omega) hK.2.1, hS⟩
    · rw [nI_ltI (by omega) (by omega)] at c
      refine zT.jnQ (fun y => zE pxv s y ∧ XK y a.2.1.1 (aD a) a.2.1.2.2.2.2.2 st ∧ Svy y (lks a b t (k + 1))) ?_ ?_
      · rintro y ⟨q1, q2, q3⟩
        refine zT.ltS ?_
        rw [nI_1]
        exact hj (by omega) _ ⟨rfl, q1, q2, q3⟩
      · intro j8 hj8
        have skip : ∀ v, lok a b t k = false → zE pmb u v → XK v a.2.1.1 (aD a) a.2.1.2.2.2.2.2 st → zT (j8 v) (fun u => zE pxv s u ∧ XX u T a ∧ Svy u (lks a b t (2 ^ a.2.1.1))) := fun v q hv hKv => by
          refine hj8 v ⟨hE.trans (hv.mono (fun o j e => by simp [pxv, pmb] at *; omega)), hKv, ?_⟩
          rw [lks_s, if_neg (by rw [q]; decide)]; exact hS.on hv
        have hk12 : k < 2 ^ a.2.1.1 := by omega
        have hpk := pcn_le k
        have hr := hK.2.2 t ht
        rw [nI_andn]
        refine zT.ite (fun c1 => ?_) (fun c1 => ?_)
        · have c1 : k.testBit b = false := (oth_sub hk12).mp ((nI_eq (by have := ndf_le k (oth a b); omega) (by decide)).mp c1)
          refine zT.gu (inb_n ht (by decide)) ?_
          rw [ai_n _ _ (by omega), hr.1, bc_n _ (by omega)]
          refine zT.ite (fun c2 => ?_) (fun c2 => ?_)
          · rw [nI_leI (by omega) (by omega)] at c2
            exact skip _ (by unfold lok; rw [decide_eq_false (show ¬ pcn k < a.2.1.2.2.2.2.2 t by omega), Bool.and_false]; rfl) (zE.refl _ _) hK
          · rw [nI_leI (by omega) (by omega)] at c2
            refine zT.bnT (t_mayBy (by omega) hK ht (by omega)) ?_
            rintro ⟨_, v⟩ ⟨rfl, hE2, hK2⟩
            dsimp only
            have hml := mmk_lt (aD a) t k a.2.1.1
            have hlk : lok a b t k = (mmk (aD a) t k a.2.1.1).testBit b := by
              unfold lok
              rw [c1, decide_eq_true (show pcn k < a.2.1.2.2.2.2.2 t by omega), mmk_t, decide_eq_true hb]; rfl
            refine zT.ite (fun c3 => ?_) (fun c3 => ?_)
            · rw [bit0 (by omega) (by omega)] at c3
              exact skip _ (by rw [hlk]; exact c3) hE2 hK2
            · rw [bit0 (by omega) (by omega)] at c3
              have hlk1 : lok a b t k = true := by rw [hlk]; simpa using c3
              obtain ⟨l1, l2, l3, l4⟩ := lks_b a b t hnb k (by omega)
              refine zT.bnT (v_take (by omega) hlk1 hr.2 ⟨l3, by omega⟩ (hS.on hE2)) ?_
              rintro w ⟨hE3, hS3⟩
              refine hj8 w ⟨(hE.trans (hE2.mono (fun o j e => by simp [pxv, pmb] at *; omega))).trans (hE3.mono (fun o j e => by simp [pxv] at *; omega)), ?_, hS3⟩
              obtain ⟨r1, r2, r3⟩ := hK2
              exact ⟨r1.fr hE3 ⟨rfl, fun b hb => ⟨by simp <;> omega, by simp <;> omega, by simp <;> omega, by simp <;> omega, fun k => by simp <;> omega, fun k => by simp <;> omega⟩, fun t => rfl⟩, r2.on (hE3.i rfl) (fun i => hE3.i rfl) (fun i => hE3.i rfl), fun t ht => ⟨(hE3.i rfl).trans (r3 t ht).1, (r3 t ht).2⟩⟩
        · have c1 : k.testBit b = true := by
            cases q : k.testBit b
            · exact absurd (by rw [(oth_sub hk12).mpr q]; rfl) c1
            · rfl
          exact skip _ (by unfold lok; rw [c1]; rfl) (zE.refl _ _) hK
theorem x_needs {n T : Nat} {s : ZSt} {a : ZA} (x y : Int32) (hn : 5000 < n) (h : XX s T a) : zT (f_X_needs n x y s) (xP (sNeeds x y a) T a s) := by
  have hnb := h.1.2.2.2.1
  obtain ⟨hA, ⟨st, hst, hB⟩, hO⟩ := id h
  generalize hr : sNeeds x y a = r
  unfold sNeeds at hr
  unfold f_X_needs
  rw [inb_has hB.1.1.1 hnb, inb_xTab]
  refine zT.ite (fun c1 => ?_) (fun c1 => ?_)
  · refine zT.ite (fun c2 => ?_) (fun c2 => ?_)
    · rw [if_pos ⟨c1, c2⟩] at hr
      obtain ⟨b, hb, rfl⟩ := (inb_iff (by omega)).mp c1
      obtain ⟨t, ht, rfl⟩ := (inb_iff (by omega)).mp c2
      rw [nI_clamp (by omega), nI_clamp (by omega)] at hr
      subst hr
      refine zT.bnT (x_look hn hA hst hB hO hb ht) ?_
      rintro u ⟨hE, hX, hS⟩
      exact zT.ret ⟨hS.1, pxv_xo hE, hX⟩
    · rw [if_neg (fun q => c2 q.2)] at hr; subst hr; exact zT.ret ⟨rfl, zE.refl _ _, h⟩
  · rw [if_neg (fun q => c1 q.1)] at hr; subst hr; exact zT.ret ⟨rfl, zE.refl _ _, h⟩
theorem x_bars {n T : Nat} {s : ZSt} {a : ZA} (x y : Int32) (hn : 5000 < n) (h : XX s T a) : zT (f_X_bars n x y s) (xP (sBars x y a) T a s) := by
  have hnb := h.1.2.2.2.1
  obtain ⟨hA, ⟨st, hst, hB⟩, hO⟩ := id h
  generalize hr : sBars x y a = r
  unfold sBars at hr
  unfold f_X_bars
  rw [inb_has hB.1.1.1 hnb, inb_xTab]
  refine zT.ite (fun c1 => ?_) (fun c1 => ?_)
  · refine zT.ite (fun c2 => ?_) (fun c2 => ?_)
    · rw [if_pos ⟨c1, c2⟩] at hr
      obtain ⟨b, hb, rfl⟩ := (inb_iff (by omega)).mp c1
      obtain ⟨t, ht, rfl⟩ := (inb_iff (by omega)).mp c2
      rw [nI_clamp (by omega), nI_clamp (by omega)] at hr
      subst hr
      refine zT.bnT (x_look hn hA hst hB hO hb ht) ?_
      rintro u ⟨hE, hX, hS⟩
      refine zT.ret ⟨?_, pxv_xo hE, hX⟩
      dsimp only
      obtain ⟨_, ⟨st2, _, hB2⟩, _⟩ := hX
      rw [t_all hB2.1.1.1 hnb, shI_n (by omega), nI_andn, hS.2.1, nI_andn]; rfl
    · rw [if_neg (fun q => c2 q.2)] at hr; subst hr; exact zT.ret ⟨rfl, zE.refl _ _, h⟩
  · rw [if_neg (fun q => c1 q.1)] at hr; subst hr; exact zT.ret ⟨rfl, zE.refl _ _, h⟩
theorem x_least {n T : Nat} {s : ZSt} {a : ZA} (x y : Int32) (hn : 5000 < n) (h : XX s T a) : zT (f_X_least n x y s) (xP (sLeast x y a).1 T (sLeast x y a).2 s) := by
  have hnb := h.1.2.2.2.1
  have h12 := pw_12 hnb
  obtain ⟨hA, ⟨st, hst, hB⟩, hO⟩ := id h
  generalize hr : sLeast x y a = r
  unfold sLeast at hr
  unfold f_X_least
  rw [inb_has hB.1.1.1 hnb, inb_xTab]
  refine zT.ite (fun c1 => ?_) (fun c1 => ?_)
  · refine zT.ite (fun c2 => ?_) (fun c2 => ?_)
    · rw [if_pos ⟨c1, c2⟩] at hr
      obtain ⟨b, hb, rfl⟩ := (inb_iff (by omega)).mp c1
      obtain ⟨t, ht, rfl⟩ := (inb_iff (by omega)).mp c2
      rw [nI_clamp (by omega), nI_clamp (by omega)] at hr
      obtain ⟨l1, l2, l3, l4⟩ := lks_b a b t hnb (2 ^ a.2.1.1) (by omega)
      refine zT.bnT (x_look hn hA hst hB hO hb ht) ?_
      rintro u ⟨hE, hX, g0, g1, g2, g3, g4⟩
      rw [g4]
      refine zT.ite (fun c3 => ?_) (fun c3 => ?_)
      · have c3 : (lks a b t (2 ^ a.2.1.1)).2.2.2 = 0 := (nI_eq (by omega) (by decide)).mp c3
        rw [if_pos c3] at hr
        subst hr
        exact zT.ret ⟨rfl, pxv_xo hE, hX⟩
      · have c3 : ¬ (lks a b t (2 ^ a.2.1.1)).2.2.2 = 0 := fun w => c3 (by rw [w]; rfl)
        rw [if_neg c3] at hr g2 g3
        subst hr
        refine zT.ltS ?_
        rw [show gi (si u 1 13 0) 203 3 = gi u 203 3 from rfl, g3]
        refine zT.bnT (x_tel _ hX.put0 (by simp)) ?_
        rintro v ⟨hE2, hM2⟩
        have e35 : gi v 203 4 = nI (lks a b t (2 ^ a.2.1.1)).2.2.2 := (hE2.i rfl).trans g4
        rw [e35]
        refine zT.bnT (x_tel _ hM2 (by simp)) ?_
        rintro w ⟨hE3, hM3⟩
        refine zT.ret ⟨?_, (pxv_xo hE).trans (prx_xo (zE.trans ((zE.refl _ _).wi rfl) (hE2.trans hE3))), hM3⟩
        show gi w 203 2 = _
        rw [hE3.i rfl, hE2.i rfl]; exact g2
    · rw [if_neg (fun q => c2 q.2)] at hr; subst hr; exact zT.ret ⟨rfl, zE.refl _ _, h⟩
  · rw [if_neg (fun q => c1 q.1)] at hr; subst hr; exact zT.ret ⟨rfl, zE.refl _ _, h⟩
end Z49
