-- book in the class
section Z98
def pxb (b : Nat) : Nat → Nat → Bool := fun o j => (o == 201 && (j == 2 || j == 5)) || (o == 300 + b && j == 2) || (o == 320 + b && j == 2) || (o == 340 + b && j == 2) || o == 400 + b || o == 420 + b
theorem cntr_0 {dn : Nat → Nat} {b : Nat} : ∀ nr, (∀ r, r < nr → (dn r).testBit b = false) → cntr dn b nr = 0 := by
  intro nr
  induction nr with
  | zero => intro _; rfl
  | succ r ih =>
    intro h
    show cntr dn b r + ((dn r).testBit b).toNat = 0
    rw [ih (fun q hq => h q (by omega)), h r (by omega)]
    rfl
theorem pxb_xo {b : Nat} (hb : b < 12) {s t : ZSt} (h : zE (pxb b) s t) : zE pXo s t := h.mono (fun o j e => by simp [pXo, pxb] at *; omega)
set_option maxHeartbeats 1000000 in
theorem XX.bk {s t : ZSt} {a : ZA} {T b w nb' : Nat} {fi se : List Int32} {lim' : Nat → Int32} (h : XX s T a) (h0 : a.1.1 = []) (hT : T < 2 ^ 29) (hn : a.2.1.1 ≤ nb') (hn2 : nb' ≤ a.2.1.1 + 1) (h12 : nb' ≤ 12) (hb : b < nb') (hbn : a.2.1.1 < nb' → b = a.2.1.1) (hE : zE (pxb b) s t)
    (g2 : gi t 201 2 = nI nb') (g5 : gi t 201 5 = gi s 201 5 + 1) (c1 : codeX t (320 + b) fi) (c2 : codeX t (340 + b) se) (w1 : wfL fi) (w2 : wfL se) (gw : gi t (300 + b) 2 = nI w) (hw : w ≤ 6) (gl3 : ∀ q, q < nb' → gi s (300 + q) 3 = lim' q) : XX t (T + 1) (aB0 a b fi w se nb' lim') := by
  obtain ⟨hA, ⟨st, hst, hB⟩, k2, k3, k4, k5, k6, k7, k8⟩ := h
  have hA' := okA_B0 (b := b) (w := w) (fi := fi) (se := se) (lim' := lim') hA hn h12
  have hb12 : b < 12 := by omega
  obtain ⟨⟨⟨a1, a2, a3⟩, ⟨m1, m2, m3⟩, rm⟩, d, e, gn, kF⟩ := hB
  have hc5 := cntr_le a.2.2.2.1.2.2.1 b a.2.2.1.1
  have hnr := hA.2.2.2.2.2.1
  refine ⟨hA', ⟨st + 1, by omega, ⟨⟨⟨g2, h12, fun q hq => ?_⟩, ⟨by rw [g5, m1, nI_1], by omega, fun i hi => ?_⟩, fun u hu => ⟨(hE.i (by simp [pxb]; omega)).trans (rm u hu).1, (rm u hu).2⟩⟩, fun q hq => ?_, fun q hq => ?_, (hE.l (by simp [pxb]; omega)).trans gn, okF_mono kF hn⟩⟩, ⟨?_, fun k hk => absurd hk (Nat.not_lt_zero _)⟩, k3.fr hE ⟨by simp [pxb]; omega, fun _ => by simp [pxb]; omega⟩, k4.fr hE ⟨by simp [pxb]; omega, fun _ => by simp [pxb]; omega⟩, fun q q1 q2 => ?_, k6.fr hnr hE ⟨by simp [pxb]; omega, fun r j hr => by simp [pxb]; omega⟩, ?_, fun i hi => ?_⟩
  · have hq : q < nb' := hq
    show codeX t (320 + q) (ups a.2.1.2.1 b fi q) ∧ codeX t (340 + q) (ups a.2.1.2.2.1 b se q) ∧ wfL (ups a.2.1.2.1 b fi q) ∧ wfL (ups a.2.1.2.2.1 b se q) ∧ gi t (300 + q) 2 = nI (ups a.2.1.2.2.2.1 b w q) ∧ ups a.2.1.2.2.2.1 b w q ≤ 6 ∧ gi t (300 + q) 5 = nI (cntr a.2.2.2.1.2.2.1 q a.2.2.1.1) ∧ cntr a.2.2.2.1.2.2.1 q a.2.2.1.1 ≤ 6
    have h55 : gi t (300 + q) 5 = gi s (300 + q) 5 := hE.i (by simp [pxb]; omega)
    rw [h55]
    by_cases eq : q = b
    · subst eq
      rw [ups_s, ups_s, ups_s]
      refine ⟨c1, c2, w1, w2, gw, hw, ?_, by omega⟩
      rcases Nat.lt_or_ge q a.2.1.1 with z | z
      · exact (a3 q z).2.2.2.2.2.2.1
      · rw [(k5 q z hb12).2, cntr_0 _ (fun r hr => tb_big (hA.2.2.2.2.2.2.2.1.2.2.1 r hr).1 z)]
        rfl
    · rw [ups_n _ _ eq, ups_n _ _ eq, ups_n _ _ eq]
      have hqn : q < a.2.1.1 := by
        rcases Nat.lt_or_ge q a.2.1.1 with z | z
        · exact z
        · have := hbn (by omega); omega
      obtain ⟨f1, f2, f3, f4, f5, f6, f7, f8⟩ := a3 q hqn
      exact ⟨f1.on (hE.i (by simp [pxb]; omega)) (fun k => hE.i (by simp [pxb]; omega)), f2.on (hE.i (by simp [pxb]; omega)) (fun k => hE.i (by simp [pxb]; omega)), f3, f4, (hE.i (by simp [pxb]; omega)).trans f5, f6, f7, f8⟩
  · obtain ⟨v, v1, v2, v3⟩ := m3 i hi
    exact ⟨v, by omega, (hE.i (by simp [pxb]; omega)).trans v2, fun z => by omega⟩
  · exact (hE.i (by have hq : q < nb' := hq; simp [pxb]; omega)).trans (gl3 q hq)
  · exact (hE.i (by simp [pxb]; omega)).trans (e q hq)
  · have := (hE.i (show pxb b 200 3 = false by simp [pxb]; omega)).trans k2.1
    rw [h0] at this
    exact this
  · have q1 : nb' ≤ q := q1
    exact ⟨(hE.i (by simp [pxb]; omega)).trans (k5 q (by omega) q2).1, (hE.i (by simp [pxb]; omega)).trans (k5 q (by omega) q2).2⟩
  · obtain ⟨z1, tot, z2, z3, z4⟩ := k7
    exact ⟨(hE.i (by simp [pxb]; omega)).trans z1, tot, by omega, (hE.i (by simp [pxb]; omega)).trans z3, z4.on (fun j => hE.i (by simp [pxb]; omega))⟩
  · have := XKs.fr k8 hE (fun o j h1 h2 => by simp [pxb]; omega) i hi
    revert this
    show XKp t i T (a.2.2.2.2 i) → XKp t i (T + 1) (a.2.2.2.2 i)
    cases a.2.2.2.2 i with
    | none => exact id
    | some x =>
      obtain ⟨S, m⟩ := x
      rintro ⟨p1, p2, p3, ⟨tot, d1, d2⟩, p5⟩
      exact ⟨p1, p2, p3, ⟨tot, by omega, d2⟩, p5⟩
theorem x_stl2 {n T b : Nat} {s : ZSt} {a : ZA} {α : Type} {P : α → Prop} {k : ZSt → Option α} (hn : 60 < n) (h : XX s T a) (hb : b < a.2.1.1) (hk : ∀ t, zE pXo s t → XX t T (aStl a b) → zT (k t) P) :
    zT (bn (f_X_tableOf n (gl s 1 8) (nI b)) (fun p10 => (if p10 = (-1 : Int32) then k s else bn (f_T_settled n (gl s 1 8) p10 s) (fun p12 => lt (sl p12.2 1 8 p12.1) (fun s13 => k s13))))) P := by
  have hnb := h.1.2.2.2.1
  have e := x_now h
  obtain ⟨hA, ⟨st, hst, hB⟩, hO⟩ := id h
  have hF := okS_f hA
  rw [e]
  refine zT.bnE (x_tableOf (by omega) (hF.S hnb) (by omega)) ?_
  refine zT.ite (fun c => ?_) (fun c => ?_)
  · rw [tI_m1] at c
    refine hk s (zE.refl _ _) ?_
    unfold aStl
    rw [if_neg c]
    exact h
  · have c3 : tof a.2.2.2.1.1 b < 3 := by
      rcases Nat.lt_or_ge (tof a.2.2.2.1.1 b) 3 with w | w
      · exact w
      · exact absurd ((tI_m1 _).mpr (by omega)) c
    generalize ht : tof a.2.2.2.1.1 b = t at c3 ⊢
    rw [tI_lt c3]
    refine zT.bnT (t_settled hn hB.1 c3 (hF.S hnb)) ?_
    rintro ⟨_, u⟩ ⟨rfl, hE, hK⟩
    dsimp only at *
    have hok := up_ok (D := aD a) (t := t) hF
    have hB2 := XA.now (XA.fr hB hE hK) hok
    refine zT.ltS (hk _ ((pmb_xo hE).wl rfl) ?_)
    unfold aStl
    rw [ht, if_pos c3]
    exact XX.put2 hA hst hO ((pmb_xk hE).wl rfl) (okA_f hA hok) hB2
theorem b_tell {b : Nat} {s : ZSt} {fi se : List Int32} {w : Nat} (hb : b < 12) (h1 : codeX s 353 fi) (h2 : codeX s 354 se) (l1 : fi.length ≤ 60) (l2 : se.length ≤ 60) (hw : gi s 200 2 = nI w) :
    zT (f_B_tell (300 + b) s) (fun t => zE (pxb b) s t ∧ codeX t (320 + b) fi ∧ codeX t (340 + b) se ∧ gi t (300 + b) 2 = nI w ∧ gi t 201 2 = gi s 201 2 ∧ gi t 201 5 = gi s 201 5) := by
  have z353 : z_isO 353 1 = true := by decide +kernel
  have z354 : z_isO 354 1 = true := by decide +kernel
  unfold f_B_tell
  refine zT.gu (zb_B b hb) ?_
  rw [show 300 + b + 20 = 320 + b by omega, show 300 + b + 40 = 340 + b by omega]
  refine zT.bnT (e_copy (zb_1 b hb) z353 l1 (by omega) h1) ?_
  rintro s1 ⟨hE1, c1⟩
  have h2' : codeX s1 354 se := h2.on (hE1.i (by simp; omega)) (fun k => hE1.i (by simp; omega))
  refine zT.bnT (e_copy (zb_2 b hb) z354 l2 (by omega) h2') ?_
  rintro s2 ⟨hE2, c2⟩
  have c1' : codeX s2 (320 + b) fi := c1.on (hE2.i (by simp; omega)) (fun k => hE2.i (by simp; omega))
  rw [(hE2.i (o := 200) (j := 2) (by simp; omega)).trans ((hE1.i (o := 200) (j := 2) (by simp; omega)).trans hw)]
  have hEz : zE (pxb b) s (si s2 (300 + b) 2 (nI w)) := ((hE1.mono (fun o j e => by simp [pxb] at *; omega)).trans (hE2.mono (fun o j e => by simp [pxb] at *; omega))).wi (by simp [pxb])
  refine zT.ltS (zT.ret ⟨hEz, c1'.on (by rw [gi_i, if_neg (by omega)]) (fun k => by rw [gi_i, if_neg (by omega)]), c2.on (by rw [gi_i, if_neg (by omega)]) (fun k => by rw [gi_i, if_neg (by omega)]), by rw [gi_i, if_pos ⟨rfl, rfl⟩], ?_, ?_⟩)
  · rw [gi_i, if_neg (by omega), hE2.i (by simp; omega), hE1.i (by simp; omega)]
  · rw [gi_i, if_neg (by omega), hE2.i (by simp; omega), hE1.i (by simp; omega)]
set_option maxHeartbeats 1000000 in
theorem x_book {n T : Nat} {s : ZSt} {a : ZA} (x : Int32) (hn : 100 < n) (hT : T < 2 ^ 29) (h : XX s T a) : zT (f_X_book n x s) (xP (sBook x a).1 (T + 1) (sBook x a).2 s) := by
  have h80 := h.1.1
  have hnb := h.1.2.2.2.1
  obtain ⟨t1, t2⟩ := id h.2.2.1
  have g2 : gi s 201 2 = nI a.2.1.1 := by obtain ⟨_, ⟨st, _, hB⟩, _⟩ := h; exact hB.1.1.1
  generalize hr : sBook x a = r
  unfold sBook at hr
  unfold f_X_book
  generalize hto : min a.1.1.length 60 = to at hr
  have e12 : ((12 : Int32) ≤ nI a.2.1.1) ↔ 12 ≤ a.2.1.1 := nI_leI (a := 12) (by omega) (by omega)
  rw [g2]
  refine zT.ln (fun x1 hx1 => ?_)
  have h1 : (x1 = 1 ∧ isNew x a) ∨ (x1 = 0 ∧ ¬ isNew x a) := by
    by_cases z : x = 12
    · rw [if_pos z] at hx1
      by_cases z2 : 12 ≤ a.2.1.1
      · rw [if_pos (e12.mpr z2)] at hx1
        exact Or.inr ⟨hx1, fun w => by have := w.2; omega⟩
      · rw [if_neg (fun w => z2 (e12.mp w))] at hx1
        exact Or.inl ⟨hx1, z, by omega⟩
    · rw [if_neg z] at hx1
      exact Or.inr ⟨hx1, fun w => z w.1⟩
  refine zT.jnQ (fun _ => x1 = 1 ∨ inb x a.2.1.1 = true) ?_ ?_
  rotate_left
  · intro j19 hj19
    rcases h1 with ⟨rfl, _⟩ | ⟨rfl, hnn⟩
    · exact zT.ie (by decide) (hj19 () (Or.inl rfl))
    · refine zT.it rfl ?_
      rw [inb_has g2 hnb]
      refine zT.ite (fun w => hj19 () (Or.inr w)) (fun w => ?_)
      rw [dif_neg hnn, if_neg w] at hr
      subst hr
      unfold f_P_clear
      refine zT.bnT (zT.ltS (zT.ret (P := fun t => t = si s 200 3 0) rfl)) ?_
      rintro _ rfl
      have hE : zE ppr s (si s 200 3 0) := (zE.refl _ _).wi rfl
      exact zT.ret ⟨rfl, ppr_xo hE, (h.tr0 hE (by rw [gi_i, if_pos ⟨rfl, rfl⟩])).mono (by omega)⟩
  rintro _ hv
  obtain ⟨b, nb', lim', hbd⟩ : ∃ b nb' lim', (b = (if x1 = 1 then a.2.1.1 else x.toNatClampNeg) ∧ nb' = (if x1 = 1 then a.2.1.1 + 1 else a.2.1.1) ∧ lim' = (if x1 = 1 then ups a.2.1.2.2.2.2.1 a.2.1.1 99 else a.2.1.2.2.2.2.1)) := ⟨_, _, _, rfl, rfl, rfl⟩
  have hr' : r = if gdP (lF a.1.1) to a.1.1.length 60 true = true then (nI b, aStl (aB0 a b (gBk (lF a.1.1) to true).2.2.1 (gBk (lF a.1.1) to true).2.2.2.1 (gBk (lF a.1.1) to true).2.2.2.2 nb' lim') b) else (-1 - nI (gBk (lF a.1.1) to true).2.1, aTR a a.1.2.1) := by
    obtain ⟨e1, e2, e3⟩ := hbd
    rw [← hr]
    rcases h1 with ⟨rfl, hnn⟩ | ⟨rfl, hnn⟩
    · rw [if_pos rfl] at e1 e2 e3
      rw [dif_pos hnn, e1, e2, e3]
    · rw [if_neg (by decide)] at e1 e2 e3
      rw [dif_neg hnn, if_pos (hv.resolve_left (by decide)), e1, e2, e3]
  clear hr
  have hbn' : a.2.1.1 ≤ nb' ∧ nb' ≤ a.2.1.1 + 1 ∧ nb' ≤ 12 ∧ b < nb' ∧ (a.2.1.1 < nb' → b = a.2.1.1) ∧ (x1 = 0 → x = nI b) := by
    obtain ⟨e1, e2, _⟩ := hbd
    rcases h1 with ⟨rfl, hnn⟩ | ⟨rfl, hnn⟩
    · rw [if_pos rfl] at e1 e2
      have := hnn.2
      exact ⟨by omega, by omega, by omega, by omega, by omega, fun w => absurd w (by decide)⟩
    · rw [if_neg (by decide)] at e1 e2
      obtain ⟨k, hk, rfl⟩ := (inb_iff (by omega)).mp (hv.resolve_left (by decide))
      rw [nI_clamp (by omega)] at e1
      exact ⟨by omega, by omega, by omega, by omega, by omega, fun _ => by rw [e1]⟩
  obtain ⟨n1, n2, n3, n4, n5, n6⟩ := hbn'
  obtain ⟨B1, B2⟩ := gBk_sp (tx := lF a.1.1) (to := to) true (by omega)
  rw [show (60 : Int32) = nI 60 from rfl]
  refine zT.bnT (x_parse (most := 60) (two := true) hn h80 (by decide) ⟨t1, t2⟩) ?_
  rintro ⟨p, s2⟩ ⟨hE2, g3, hp, g5⟩
  dsimp only at *
  rw [hto] at hp g5
  have hX2 := h.tr0 hE2 g3
  by_cases w : gdP (lF a.1.1) to a.1.1.length 60 true = true
  rotate_left
  · rw [if_neg w] at hr' hp
    subst hr'
    rw [hp]
    exact zT.ie (nI_nm1 (by omega)) (zT.ret ⟨rfl, ppr_xo hE2, hX2.mono (by omega)⟩)
  rw [if_pos w] at hr' hp
  subst hr'
  rw [hp]
  have hok : (gBk (lF a.1.1) to true).1 = true := by unfold gdP at w; rw [Bool.and_eq_true] at w; exact w.1
  obtain ⟨w1, w2, w3⟩ := B2 hok
  obtain ⟨d1, d2, d3⟩ := g5 w
  have y2 : gi s2 201 2 = nI a.2.1.1 := (hE2.i rfl).trans g2
  refine zT.it rfl ?_
  have ex5 : (if x1 = 0 then x else gi s2 201 2) = nI b := by
    rcases h1 with ⟨rfl, _⟩ | ⟨rfl, _⟩
    · rw [if_neg (by decide), y2, hbd.1, if_pos rfl]
    · rw [if_pos rfl]; exact n6 rfl
  rw [ex5]
  refine zT.ltS ?_
  refine zT.jnQ (fun u => zE (fun o j => o == 201 && j == 2) s2 u ∧ gi u 201 2 = nI nb') ?_ ?_
  · rintro u ⟨hEu, u2⟩
    refine zT.gu (inb_n (by omega) (by decide)) ?_
    rw [ra_b (by omega)]
    have du1 : codeX u 353 (gBk (lF a.1.1) to true).2.2.1 := d1.on (hEu.i rfl) (fun k => hEu.i rfl)
    have du2 : codeX u 354 (gBk (lF a.1.1) to true).2.2.2.2 := d2.on (hEu.i rfl) (fun k => hEu.i rfl)
    refine zT.bnT (b_tell (by omega) du1 du2 w1.1 w3.1 ((hEu.i rfl).trans d3)) ?_
    rintro s3 ⟨hE3, c1, c2, c3, c4, c5⟩
    unfold f_T_forget
    refine zT.bnT (zT.ltS (zT.ret (P := fun t => t = si s3 201 5 (gi s3 201 5 + 1)) rfl)) ?_
    rintro _ rfl
    have hE4 : zE (pxb b) s2 (si s3 201 5 (gi s3 201 5 + 1)) := ((hEu.mono (fun o j e => by simp [pxb] at *; omega)).trans hE3).wi (by simp [pxb])
    have hlim : ∀ q, q < nb' → gi s2 (300 + q) 3 = lim' q := fun q hq => by
      obtain ⟨e1, e2, e3⟩ := hbd
      obtain ⟨hA0, ⟨st, hst, hB⟩, hO⟩ := id hX2
      rcases h1 with ⟨rfl, hnn⟩ | ⟨rfl, hnn⟩
      · rw [if_pos rfl] at e1 e2 e3
        rw [e3, ups_i]
        by_cases z : q = a.2.1.1
        · rw [if_pos z, z]
          exact (hO.2.2.2.1 a.2.1.1 (Nat.le_refl _) hnn.2).1
        · rw [if_neg z]
          exact hB.2.1 q (show q < a.2.1.1 by omega)
      · rw [if_neg (by decide)] at e1 e2 e3
        rw [e3]
        exact hB.2.1 q (show q < a.2.1.1 by omega)
    have hX4 : XX (si s3 201 5 (gi s3 201 5 + 1)) (T + 1) (aB0 a b (gBk (lF a.1.1) to true).2.2.1 (gBk (lF a.1.1) to true).2.2.2.1 (gBk (lF a.1.1) to true).2.2.2.2 nb' lim') := by
      refine XX.bk (a := aTR a a.1.2.1) hX2 rfl hT n1 n2 n3 n4 n5 hE4 ?_ ?_ (c1.on (by rw [gi_i, if_neg (by omega)]) (fun k => by rw [gi_i, if_neg (by omega)])) (c2.on (by rw [gi_i, if_neg (by omega)]) (fun k => by rw [gi_i, if_neg (by omega)])) w1 w3 (by rw [gi_i, if_neg (by omega)]; exact c3) w2 hlim
      · rw [gi_i, if_neg (by omega), c4]; exact u2
      · rw [gi_i, if_pos ⟨rfl, rfl⟩, c5, hEu.i rfl]
    refine x_stl2 (k := fun t => some (nI b, t)) (by omega) hX4 n4 (fun t hE5 hX5 => zT.ret ⟨rfl, (ppr_xo hE2).trans ((pxb_xo (by omega) hE4).trans hE5), hX5⟩)
  · intro j14 hj14
    obtain ⟨e1, e2, e3⟩ := hbd
    rcases h1 with ⟨rfl, _⟩ | ⟨rfl, _⟩
    · rw [if_pos rfl] at e2
      rw [y2, nI_1]
      exact zT.ie (by decide) (zT.ltS (hj14 _ ⟨(zE.refl _ _).wi rfl, by rw [gi_i, if_pos ⟨rfl, rfl⟩, e2]⟩))
    · rw [if_neg (by decide)] at e2
      exact zT.it rfl (hj14 _ ⟨zE.refl _ _, by rw [e2]; exact y2⟩)
end Z98
