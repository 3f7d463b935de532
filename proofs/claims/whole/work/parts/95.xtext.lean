-- the class reads a text
section Z95
section
variable {n len most : Nat} {l : List Int32}
theorem pxp_pr {o : Nat} {s t : ZSt} (ho : o = 353 ∨ o = 354) (h : zE (pxp o) s t) : zE ppr s t := h.mono (fun q j e => by rcases ho with rfl | rfl <;> (simp [pxp, ppr] at *; omega))
theorem gdP_no1 {tx : Nat → Int32} {to : Nat} {two : Bool} (h : (gBk tx to two).1 = false) : gdP tx to len most two = false := by unfold gdP; rw [h, Bool.false_and]
theorem gdP_no2 {tx : Nat → Int32} {to : Nat} {two : Bool} (h : ¬ (gBk tx to two).2.1 = to) : gdP tx to len most two = false := by unfold gdP; rw [decide_eq_false h, Bool.false_and, Bool.and_false]
theorem gdP_no3 {tx : Nat → Int32} {to : Nat} {two : Bool} (h : ¬ len ≤ most) : gdP tx to len most two = false := by unfold gdP; rw [decide_eq_false h, Bool.and_false, Bool.and_false]
theorem gdP_yes {tx : Nat → Int32} {to : Nat} {two : Bool} (h1 : (gBk tx to two).1 = true) (h2 : (gBk tx to two).2.1 = to) (h3 : len ≤ most) : gdP tx to len most two = true := by unfold gdP; rw [h1, decide_eq_true h2, decide_eq_true h3]; rfl
theorem p_tk {tx : Nat → Int32} {to b : Nat} {s : ZSt} (h1 : gi s 200 6 = nI b) (h2 : gi s 200 7 = nI to) (h3 : ∀ k, k < to → gi s 224 k = tx k) (hb : b ≤ to) (ht : to ≤ 60) (c : Int32) : f_P_takes c s = some (gis tx to c b, if gis tx to c b = true then si s 200 6 (nI (b + 1)) else s) := by
  apply zT.eq
  unfold f_P_takes
  rw [h1, h2]
  refine zT.ite (fun q => ?_) (fun q => ?_)
  · rw [nI_leI (by omega) (by omega)] at q
    have e : gis tx to c b = false := by unfold gis; rw [decide_eq_false (by omega), Bool.false_and]
    rw [e]
    exact zT.ret rfl
  · rw [nI_leI (by omega) (by omega)] at q
    refine zT.gu (inb_n (by omega) (by decide)) ?_
    rw [ai_n _ _ (by omega), h3 b (by omega)]
    have e : gis tx to c b = decide (tx b = c) := gis_b (by omega)
    rw [e]
    refine zT.ite (fun q2 => ?_) (fun q2 => ?_)
    · rw [decide_eq_true q2, nI_1]
      exact zT.ltS (zT.ret rfl)
    · rw [decide_eq_false q2]
      exact zT.ret rfl
def xtP (s : ZSt) (l : List Int32) (most : Nat) (two : Bool) (r : Int32 × ZSt) : Prop :=
  zE ppr s r.2 ∧ gi r.2 200 3 = 0 ∧ r.1 = (if gdP (lF l) (min l.length most) l.length most two = true then -1 else nI (gBk (lF l) (min l.length most) two).2.1) ∧
  (gdP (lF l) (min l.length most) l.length most two = true → codeX r.2 353 (gBk (lF l) (min l.length most) two).2.2.1 ∧ codeX r.2 354 (gBk (lF l) (min l.length most) two).2.2.2.2 ∧ gi r.2 200 2 = nI (gBk (lF l) (min l.length most) two).2.2.2.1)
set_option maxHeartbeats 1000000 in
theorem x_parse {two : Bool} {s : ZSt} (hn : 100 < n) (hl : l.length ≤ 80) (hm : most ≤ 60) (h : XTx s l) : zT (f_P_parse n (nI most) two s) (xtP s l most two) := by
  obtain ⟨t1, t2⟩ := h
  unfold f_P_parse xtP
  have hto : min l.length most ≤ 60 := by omega
  have htl : min l.length most ≤ l.length := Nat.min_le_left _ _
  rw [t1, imin_n (by omega) (by omega)]
  generalize hte : min l.length most = to at hto htl ⊢
  refine zT.ltS (zT.ltS (zT.ln (fun s3 hs3 => ?_)))
  have hz354 : z_isO 354 1 = true := by decide +kernel
  unfold f_E_clear
  refine zT.bnT (zT.gu hz354 (zT.ltS (zT.ret (P := fun t => t = si s3 354 2 0) rfl))) ?_
  rintro _ rfl
  have g : ∀ q j, ¬ (q = 354 ∧ j = 2) → ¬ (q = 200 ∧ (j = 2 ∨ j = 6 ∨ j = 7)) → gi (si s3 354 2 0) q j = gi s q j := fun q j e1 e2 => by
    rw [gi_i, if_neg e1, hs3, gi_i, if_neg (by omega), gi_i, if_neg (by omega), gi_i, if_neg (by omega)]
  have g6 : gi (si s3 354 2 0) 200 6 = nI 0 := by rw [gi_i, if_neg (by omega), hs3, gi_i, if_neg (by omega), gi_i, if_pos ⟨rfl, rfl⟩]; rfl
  have g7 : gi (si s3 354 2 0) 200 7 = nI to := by rw [gi_i, if_neg (by omega), hs3, gi_i, if_neg (by omega), gi_i, if_neg (by omega), gi_i, if_pos ⟨rfl, rfl⟩]
  have g2 : gi (si s3 354 2 0) 200 2 = 0 := by rw [gi_i, if_neg (by omega), hs3, gi_i, if_pos ⟨rfl, rfl⟩]
  have g354 : gi (si s3 354 2 0) 354 2 = 0 := by rw [gi_i, if_pos ⟨rfl, rfl⟩]
  have gtx : ∀ k, k < to → gi (si s3 354 2 0) 224 k = lF l k := fun k hk => by
    rw [g _ _ (by omega) (by omega)]
    have := t2 k (by omega)
    rwa [Nat.zero_add] at this
  have gtl : gi (si s3 354 2 0) 200 3 = nI l.length := by rw [g _ _ (by omega) (by omega)]; exact t1
  have hE4 : zE ppr s (si s3 354 2 0) := by rw [hs3]; exact ((((zE.refl _ _).wi rfl).wi rfl).wi rfl).wi rfl
  generalize si s3 354 2 0 = s4 at g6 g7 g2 g354 gtx gtl hE4 ⊢
  refine zT.bnT (x_whole (o := 353) hn hto (Nat.zero_le _) (Or.inl rfl) g6 g7 gtx) ?_
  rintro ⟨_, s5⟩ ⟨rfl, hE5, k6, kc⟩
  dsimp only at *
  have hE45 := hE4.trans (pxp_pr (Or.inl rfl) hE5)
  have k7 : gi s5 200 7 = nI to := (hE5.i rfl).trans g7
  have k2 : gi s5 200 2 = 0 := (hE5.i rfl).trans g2
  have k3 : gi s5 200 3 = nI l.length := (hE5.i rfl).trans gtl
  have ktx : ∀ k, k < to → gi s5 224 k = lF l k := fun k hk => (hE5.i rfl).trans (gtx k hk)
  have kc2 : codeX s5 354 [] := ⟨(hE5.i rfl).trans g354, fun k hk => absurd hk (Nat.not_lt_zero _)⟩
  obtain ⟨B1, B2⟩ := gBk_sp (tx := lF l) (to := to) two hto
  obtain ⟨R1, R2, _⟩ := gRc_B (tx := lF l) (to := to) 4 0 (Nat.zero_le _)
  refine zT.jnQ (fun x => zE ppr s x.2 ∧ gi x.2 200 6 = nI (gBk (lF l) to two).2.1 ∧ x.1 = (if gdP (lF l) to l.length most two = true then 1 else 0) ∧ (gdP (lF l) to l.length most two = true → codeX x.2 353 (gBk (lF l) to two).2.2.1 ∧ codeX x.2 354 (gBk (lF l) to two).2.2.2.2 ∧ gi x.2 200 2 = nI (gBk (lF l) to two).2.2.2.1)) ?_ ?_
  · rintro ⟨_, x⟩ ⟨q1, q2, rfl, q4⟩
    dsimp only at *
    have cod : gdP (lF l) to l.length most two = true → codeX (si x 200 3 0) 353 (gBk (lF l) to two).2.2.1 ∧ codeX (si x 200 3 0) 354 (gBk (lF l) to two).2.2.2.2 ∧ gi (si x 200 3 0) 200 2 = nI (gBk (lF l) to two).2.2.2.1 := fun w => by
      obtain ⟨c1, c2, c3⟩ := q4 w
      exact ⟨c1.on (by rw [gi_i, if_neg (by omega)]) (fun k => by rw [gi_i, if_neg (by omega)]), c2.on (by rw [gi_i, if_neg (by omega)]) (fun k => by rw [gi_i, if_neg (by omega)]), by rw [gi_i, if_neg (by omega)]; exact c3⟩
    refine zT.ltS ?_
    by_cases w : gdP (lF l) to l.length most two = true
    · rw [if_pos w]
      refine zT.ie (by decide) (zT.ret ⟨q1.wi rfl, by rw [gi_i, if_pos ⟨rfl, rfl⟩], ?_, cod⟩)
      rw [if_pos w]
    · rw [if_neg w]
      refine zT.it rfl (zT.ret ⟨q1.wi rfl, by rw [gi_i, if_pos ⟨rfl, rfl⟩], ?_, cod⟩)
      rw [if_neg w, gi_i, if_neg (by omega)]
      exact q2
  intro j9 hj9
  refine zT.jnQ (fun x => gdP (lF l) to l.length most two = false ∧ zE ppr s x ∧ gi x 200 6 = nI (gBk (lF l) to two).2.1) ?_ ?_
  · rintro x ⟨q1, q2, q3⟩
    exact hj9 _ ⟨q2, q3, by rw [q1]; rfl, fun w => by rw [q1] at w; cases w⟩
  intro j11 hj11
  refine zT.ite (fun c1 => ?_) (fun c1 => ?_)
  rotate_left
  · have e : gBk (lF l) to two = (false, (gRc (lF l) to 4 0).2.1, (gRc (lF l) to 4 0).2.2, 0, []) := by
      have c1 : (gRc (lF l) to 4 0).1 = false := by cases w : (gRc (lF l) to 4 0).1; rfl; exact absurd w c1
      unfold gBk gB2
      cases two
      · rw [if_neg (by decide), c1]
      · rw [if_pos rfl, c1, if_neg (by decide)]
    exact hj11 _ ⟨gdP_no1 (by rw [e]), hE45, by rw [e]; exact k6⟩
  refine zT.jnQ (fun x => (gBk (lF l) to two).1 = true ∧ zE ppr s x ∧ gi x 200 6 = nI (gBk (lF l) to two).2.1 ∧ gi x 200 7 = nI to ∧ gi x 200 3 = nI l.length ∧ codeX x 353 (gBk (lF l) to two).2.2.1 ∧ codeX x 354 (gBk (lF l) to two).2.2.2.2 ∧ gi x 200 2 = nI (gBk (lF l) to two).2.2.2.1) ?_ ?_
  · rintro x ⟨q1, q2, q3, q4, q5, q6⟩
    rw [q3, q4, q5]
    refine zT.ite (fun w => ?_) (fun w => ?_)
    · have w := (nI_eq (by omega) (by omega)).mp w
      refine zT.ite (fun w2 => ?_) (fun w2 => ?_)
      · rw [nI_ltI (by omega) (by omega)] at w2
        exact hj11 _ ⟨gdP_no3 (by omega), q2, q3⟩
      · rw [nI_ltI (by omega) (by omega)] at w2
        have hg := gdP_yes (most := most) q1 w (show l.length ≤ most by omega)
        exact hj9 _ ⟨q2, q3, by rw [hg]; rfl, fun _ => q6⟩
    · exact hj11 _ ⟨gdP_no2 (fun e => w (by rw [e])), q2, q3⟩
  intro j16 hj16
  rw [k6, k7]
  refine zT.ite (fun c2 => ?_) (fun c2 => ?_)
  · have c2 := (nI_eq (by omega) (by omega)).mp c2
    have e : gBk (lF l) to two = (true, (gRc (lF l) to 4 0).2.1, (gRc (lF l) to 4 0).2.2, 0, []) := by
      have c3 : gis (lF l) to 59 (gRc (lF l) to 4 0).2.1 = false := by unfold gis; rw [decide_eq_false (by omega), Bool.false_and]
      unfold gBk gB2
      cases two
      · rw [if_neg (by decide), c1]
      · rw [if_pos rfl, if_pos c1, c3, if_neg (by decide)]
    exact hj16 _ ⟨by rw [e], hE45, by rw [e]; exact k6, k7, k3, by rw [e]; exact kc, by rw [e]; exact kc2, by rw [e]; exact k2⟩
  have c2 : (gRc (lF l) to 4 0).2.1 < to := by
    have : (gRc (lF l) to 4 0).2.1 ≠ to := fun w => c2 (by rw [w])
    omega
  refine zT.ite (fun c3 => ?_) (fun c3 => ?_)
  rotate_left
  · have c3 : two = false := by cases two; rfl; exact absurd rfl c3
    have e : gBk (lF l) to two = ((gRc (lF l) to 4 0).1, (gRc (lF l) to 4 0).2.1, (gRc (lF l) to 4 0).2.2, 0, []) := by unfold gBk; rw [c3, if_neg (by decide)]
    exact hj11 _ ⟨gdP_no2 (by rw [e]; dsimp only; omega), hE45, by rw [e]; exact k6⟩
  subst c3
  have eB : gBk (lF l) to true = gB2 (lF l) to := by unfold gBk; rw [if_pos rfl]
  unfold f_P_later
  generalize hb1 : (gRc (lF l) to 4 0).2.1 = b at k6 c2 R1 R2
  generalize hm1 : (gRc (lF l) to 4 0).2.2 = m1 at kc R1
  refine zT.bnT (zT.bnE (p_tk k6 k7 ktx (by omega) hto 59) ?_ : zT _ (fun r => zE ppr s r.2 ∧ gi r.2 200 6 = nI (gBk (lF l) to true).2.1 ∧ gi r.2 200 7 = nI to ∧ gi r.2 200 3 = nI l.length ∧ (r.1 = true → (gBk (lF l) to true).1 = true ∧ codeX r.2 353 m1 ∧ codeX r.2 354 (gBk (lF l) to true).2.2.2.2 ∧ gi r.2 200 2 = nI (gBk (lF l) to true).2.2.2.1 ∧ (gBk (lF l) to true).2.2.1 = m1) ∧ (r.1 = false → gdP (lF l) to l.length most true = false))) ?_
  rotate_left
  · rintro ⟨w, s9⟩ ⟨q1, q2, q3, q4, q5, q6⟩
    dsimp only at *
    refine zT.ite (fun w1 => ?_) (fun w1 => ?_)
    · obtain ⟨z1, z2, z3, z4, z5⟩ := q5 w1
      exact hj16 _ ⟨z1, q1, q2, q3, q4, by rw [z5]; exact z2, z3, z4⟩
    · exact hj11 _ ⟨q6 (by cases w; rfl; exact absurd rfl w1), q1, q2⟩
  clear hj16 hj11 hj9
  generalize hB : gBk (lF l) to true = B
  have eG := hB
  rw [eB] at hB
  unfold gB2 at hB
  rw [if_pos c1, hb1, hm1] at hB
  have no1 : B.1 = false → gdP (lF l) to l.length most true = false := fun w => gdP_no1 (by rw [eG]; exact w)
  refine zT.ite (fun d1 => ?_) (fun d1 => ?_)
  rotate_left
  · have d1' : gis (lF l) to 59 b = false := by cases w : gis (lF l) to 59 b; rfl; exact absurd w d1
    rw [d1', if_neg (by decide)] at hB
    subst hB
    rw [d1', if_neg (by decide)]
    exact zT.ret ⟨hE45, k6, k7, k3, fun w => (by cases w), fun _ => gdP_no2 (by rw [eG]; dsimp only; omega)⟩
  rw [if_pos d1] at hB ⊢
  have hblt := (gis_lt d1).1
  dsimp only
  rw [show gi (si s5 200 6 (nI (b + 1))) 200 7 = gi s5 200 7 from rfl, show gi (si s5 200 6 (nI (b + 1))) 200 6 = nI (b + 1) from rfl, k7]
  have hE6 : zE ppr s (si s5 200 6 (nI (b + 1))) := hE45.wi rfl
  refine zT.ite (fun d2 => ?_) (fun d2 => ?_)
  · rw [nI_leI (by omega) (by omega)] at d2
    have e : gsx (lF l) to (b + 1) = false := by unfold gsx; rw [decide_eq_false (by omega), Bool.false_and]
    rw [e, if_neg (by decide)] at hB
    subst hB
    exact zT.ret ⟨hE6, rfl, k7, k3, fun w => (by cases w), fun _ => no1 rfl⟩
  rw [nI_leI (by omega) (by omega)] at d2
  have hb2 : b + 1 < to := by omega
  refine zT.gu (inb_n (by omega) (by decide)) ?_
  rw [ai_n _ _ (by omega), show gi (si s5 200 6 (nI (b + 1))) 224 (b + 1) = gi s5 224 (b + 1) from rfl, ktx _ hb2]
  refine zT.ite (fun d3 => ?_) (fun d3 => ?_)
  · have e : gsx (lF l) to (b + 1) = false := by unfold gsx; rw [decide_eq_false (Int32.not_le.mpr d3), Bool.false_and, Bool.and_false]
    rw [e, if_neg (by decide)] at hB
    subst hB
    exact zT.ret ⟨hE6, rfl, k7, k3, fun w => (by cases w), fun _ => no1 rfl⟩
  refine zT.ite (fun d4 => ?_) (fun d4 => ?_)
  rotate_left
  · have e : gsx (lF l) to (b + 1) = false := by unfold gsx; rw [decide_eq_false d4, Bool.and_false, Bool.and_false]
    rw [e, if_neg (by decide)] at hB
    subst hB
    exact zT.ret ⟨hE6, rfl, k7, k3, fun w => (by cases w), fun _ => no1 rfl⟩
  have e : gsx (lF l) to (b + 1) = true := by unfold gsx; rw [decide_eq_true hb2, decide_eq_true (Int32.not_lt.mp d3), decide_eq_true d4]; rfl
  rw [if_pos e] at hB
  obtain ⟨_, w, _, hw, ew⟩ := gsx_lt e
  refine zT.ltS ?_
  rw [show gi (si (si s5 200 6 (nI (b + 1))) 200 2 (lF l (b + 1) - 48)) 200 6 = nI (b + 1) from rfl, nI_1]
  refine zT.ln (fun s8 hs8 => ?_)
  have hE8 : zE ppr s s8 := by rw [hs8]; exact (hE6.wi rfl).wi rfl
  have m6 : gi s8 200 6 = nI (b + 2) := by rw [hs8]; rfl
  have m7 : gi s8 200 7 = nI to := by rw [hs8]; exact k7
  have m3 : gi s8 200 3 = nI l.length := by rw [hs8]; exact k3
  have m2 : gi s8 200 2 = lF l (b + 1) - 48 := by rw [hs8]; rfl
  have mtx : ∀ k, k < to → gi s8 224 k = lF l k := fun k hk => by rw [hs8]; exact ktx k hk
  have mc : codeX s8 353 m1 := kc.on (by rw [hs8]; rfl) (fun k => by rw [hs8]; rfl)
  clear hs8
  refine zT.bnE (p_tk m6 m7 mtx (by omega) hto 59) ?_
  dsimp only
  refine zT.jnQ (fun x => zE ppr s x ∧ gi x 200 6 = nI B.2.1 ∧ gi x 200 7 = nI to ∧ gi x 200 3 = nI l.length ∧ B.1 = false) ?_ ?_
  · rintro x ⟨q1, q2, q3, q4, q5⟩
    exact zT.ret ⟨q1, q2, q3, q4, fun w => (by cases w), fun _ => no1 q5⟩
  intro j11 hj11
  refine zT.ite (fun d5 => ?_) (fun d5 => ?_)
  rotate_left
  · rw [if_neg d5] at hB ⊢
    subst hB
    exact hj11 _ ⟨hE8, m6, m7, m3, rfl⟩
  rw [if_pos d5] at hB ⊢
  have hb3 := (gis_lt d5).1
  have hE9 : zE ppr s (si s8 200 6 (nI (b + 2 + 1))) := hE8.wi rfl
  refine zT.bnT (x_whole (o := 354) (b := b + 3) hn hto (by omega) (Or.inr rfl) (by rfl) (by exact m7) (fun k hk => mtx k hk)) ?_
  rintro ⟨_, s9⟩ ⟨rfl, hE10, n6, nc⟩
  dsimp only at *
  have hEz : zE ppr s s9 := hE9.trans (pxp_pr (Or.inr rfl) hE10)
  have n7 : gi s9 200 7 = nI to := (hE10.i rfl).trans m7
  have n3 : gi s9 200 3 = nI l.length := (hE10.i rfl).trans m3
  have n2 : gi s9 200 2 = lF l (b + 1) - 48 := (hE10.i rfl).trans m2
  have nc1 : codeX s9 353 m1 := mc.on (hE10.i rfl) (fun k => hE10.i rfl)
  refine zT.ite (fun d6 => ?_) (fun d6 => ?_)
  · subst hB
    refine zT.ret ⟨hEz, n6, n7, n3, fun _ => ⟨d6, nc1, nc, ?_, rfl⟩, fun w => (by cases w)⟩
    dsimp only
    rw [n2, ew, show (48 : Int32) = nI 48 from rfl, pk_sub (by omega), nI_clamp (by omega)]
  · have d6 : (gRc (lF l) to 4 (b + 3)).1 = false := by cases w : (gRc (lF l) to 4 (b + 3)).1; rfl; exact absurd w d6
    subst hB
    exact hj11 _ ⟨hEz, n6, n7, n3, d6⟩
end
end Z95
