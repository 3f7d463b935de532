-- the class's parser does as the grammar says
section Z91
def pxp (o : Nat) : Nat → Nat → Bool := fun q j => (q == 200 && (j == 5 || j == 6)) || (q == o && j == 2) || q == o + 80
/-- the class while it reads: at a place, with these marks -/
def PX (tx : Nat → Int32) (to o : Nat) (s : ZSt) (b : Nat) (ms : List Int32) : Prop :=
  gi s 200 6 = nI b ∧ gi s 200 7 = nI to ∧ (∀ k, k < to → gi s 224 k = tx k) ∧ gi s 200 5 = nI o ∧ gi s o 2 = nI ms.length ∧ (∀ k, k < ms.length → gi s (o + 80) k = xph (lF ms k)) ∧ (o = 353 ∨ o = 354)
def xrP (tx : Nat → Int32) (to o : Nat) (s : ZSt) (g : PR) (ms : List Int32) : Bool × ZSt → Prop := fun r => r.1 = g.1 ∧ zE (pxp o) s r.2 ∧ PX tx to o r.2 g.2.1 (ms ++ g.2.2)
def SX' (tx : Nat → Int32) (to o : Nat) (F : ZSt → Option (Bool × ZSt)) (G : Nat → PR) : Prop := ∀ b ms s, PX tx to o s b ms → b ≤ to → ms.length ≤ b → zT (F s) (xrP tx to o s (G b) ms)
section
variable {tx : Nat → Int32} {to o : Nat} {s : ZSt} {b : Nat} {ms : List Int32}
theorem PX.go (h : PX tx to o s b ms) (c : Nat) : PX tx to o (si s 200 6 (nI c)) c ms := by
  obtain ⟨h1, h2, h3, h4, h5, h6, h7⟩ := h
  refine ⟨by rw [gi_i, if_pos ⟨rfl, rfl⟩], by rw [gi_i, if_neg (by omega)]; exact h2, fun k hk => by rw [gi_i, if_neg (by omega)]; exact h3 k hk, by rw [gi_i, if_neg (by omega)]; exact h4, by rw [gi_i, if_neg (by omega)]; exact h5, fun k hk => by rw [gi_i, if_neg (by omega)]; exact h6 k hk, h7⟩
theorem PX.goE (s : ZSt) (c : Nat) : zE (pxp o) s (si s 200 6 (nI c)) := (zE.refl _ _).wi rfl
theorem P_isO (h : PX tx to o s b ms) : z_isO (gi s 200 5).toNatClampNeg 1 = true := by
  obtain ⟨_, _, _, h4, _, _, h7⟩ := h
  rw [h4]
  rcases h7 with rfl | rfl <;> decide +kernel
theorem P_o (h : PX tx to o s b ms) : (gi s 200 5).toNatClampNeg = o := by
  obtain ⟨_, _, _, h4, _, _, h7⟩ := h
  rw [h4, nI_clamp (by omega)]
theorem p_append (h : PX tx to o s b ms) (hl : ms.length < 60) {m v : Int32} (hv : v = xph m) : zT (f_E_append ((gi s 200 5).toNatClampNeg) v s) (fun t => zE (pxp o) s t ∧ PX tx to o t b (ms ++ [m])) := by
  have hz := P_isO h
  rw [P_o h] at hz ⊢
  obtain ⟨h1, h2, h3, h4, h5, h6, h7⟩ := h
  unfold f_E_append
  refine zT.gu hz ?_
  rw [h5]
  refine zT.ie (by rw [show (60 : Int32) = nI 60 from rfl, nI_leI (by omega) (by omega)]; omega) ?_
  refine zT.gu (inb_n hl (by decide)) ?_
  rw [sai_n _ _ _ (by omega)]
  refine zT.ltS ?_
  rw [gi_i, if_neg (by omega), h5, nI_1]
  refine zT.ltS (zT.ret ⟨?_, ?_⟩)
  · refine ((zE.refl _ _).wi ?_).wi ?_
    · rcases h7 with rfl | rfl <;> rfl
    · rcases h7 with rfl | rfl <;> rfl
  · have g : ∀ q j, ¬ (q = o ∧ j = 2) → ¬ (q = o + 80 ∧ j = ms.length) → gi (si (si s (o + 80) ms.length v) o 2 (nI (ms.length + 1))) q j = gi s q j := fun q j e1 e2 => by
      rw [gi_i, if_neg e1, gi_i, if_neg e2]
    refine ⟨by rw [g _ _ (by omega) (by omega)]; exact h1, by rw [g _ _ (by omega) (by omega)]; exact h2, fun k hk => by rw [g _ _ (by omega) (by omega)]; exact h3 k hk, by rw [g _ _ (by omega) (by omega)]; exact h4, by rw [gi_i, if_pos ⟨rfl, rfl⟩, List.length_append]; rfl, fun k hk => ?_, h7⟩
    rw [List.length_append, List.length_singleton] at hk
    by_cases e : k = ms.length
    · subst e
      rw [gi_i, if_neg (by omega), gi_i, if_pos ⟨rfl, rfl⟩, hv, lF_ge (Nat.le_refl _), Nat.sub_self]
      rfl
    · rw [g _ _ (by omega) (by omega), lF_lt (by omega)]
      exact h6 k (by omega)
theorem p_takes (h : PX tx to o s b ms) (hb : b ≤ to) (ht : to ≤ 60) (c : Int32) : zT (f_P_takes c s) (fun r => (r.1 = gis tx to c b) ∧ zE (pxp o) s r.2 ∧ PX tx to o r.2 (if gis tx to c b = true then b + 1 else b) ms) := by
  obtain ⟨h1, h2, h3, _⟩ := id h
  unfold f_P_takes
  rw [h1, h2]
  refine zT.ite (fun q => ?_) (fun q => ?_)
  · rw [nI_leI (by omega) (by omega)] at q
    have e : gis tx to c b = false := by unfold gis; rw [decide_eq_false (by omega), Bool.false_and]
    rw [e]
    exact zT.ret ⟨rfl, zE.refl _ _, h⟩
  · rw [nI_leI (by omega) (by omega)] at q
    refine zT.gu (inb_n (by omega) (by decide)) ?_
    rw [ai_n _ _ (by omega), h3 b (by omega)]
    have e : gis tx to c b = decide (tx b = c) := by unfold gis; rw [decide_eq_true (show b < to by omega), Bool.true_and]
    rw [e]
    refine zT.ite (fun q2 => ?_) (fun q2 => ?_)
    · rw [decide_eq_true q2, nI_1]
      exact zT.ltS (zT.ret ⟨rfl, PX.goE s (b + 1), h.go (b + 1)⟩)
    · rw [decide_eq_false q2]
      exact zT.ret ⟨rfl, zE.refl _ _, h⟩
theorem p_isDigit (h : PX tx to o s b ms) (hb : b ≤ to + 1) (ht : to ≤ 60) : f_P_isDigit s = some (gdig tx to b) := by
  obtain ⟨h1, h2, h3, _⟩ := id h
  apply zT.eq
  unfold f_P_isDigit
  rw [h1, h2]
  refine zT.jnQ (fun _ => gdig tx to b = false) (fun _ q => zT.ret q.symm) ?_
  intro j hj
  refine zT.ite (fun q => hj () ?_) (fun q => ?_)
  · rw [nI_leI (by omega) (by omega)] at q
    unfold gdig; rw [decide_eq_false (by omega), Bool.false_and]
  · rw [nI_leI (by omega) (by omega)] at q
    have e : gdig tx to b = (decide (48 ≤ tx b) && decide (tx b ≤ 57)) := by unfold gdig; rw [decide_eq_true (show b < to by omega), Bool.true_and]
    refine zT.gu (inb_n (by omega) (by decide)) ?_
    rw [ai_n _ _ (by omega), h3 b (by omega)]
    refine zT.ite (fun q2 => hj () ?_) (fun q2 => ?_)
    · rw [e, decide_eq_false (Int32.not_le.mpr q2), Bool.false_and]
    · refine zT.ite (fun q3 => hj () ?_) (fun q3 => zT.ret ?_)
      · rw [e, decide_eq_false (Int32.not_le.mpr q3), Bool.and_false]
      · rw [e, decide_eq_true (Int32.not_lt.mp q2), decide_eq_true (Int32.not_lt.mp q3)]; rfl
theorem gis_b {c : Int32} (hb : b < to) : gis tx to c b = decide (tx b = c) := by unfold gis; rw [decide_eq_true hb, Bool.true_and]
theorem L0_x : ∀ v ∈ L0, (if v < 97 then (if v = 110 then (120 : Int32) else if v = 114 then 121 else if v = 116 then 122 else 0) else if 109 ≤ v then (if v = 110 then (120 : Int32) else if v = 114 then 121 else if v = 116 then 122 else 0) else 100 + v - 97) = xph (1000 + ixo L0 v) ∧ xph (1000 + ixo L0 v) ≠ 0 := by decide +kernel
theorem L0_no {v : Int32} (h : ¬ v ∈ L0) : (v < 97 ∨ 109 ≤ v) ∧ v ≠ 110 ∧ v ≠ 114 ∧ v ≠ 116 := by
  refine ⟨?_, fun e => h (by rw [e]; decide), fun e => h (by rw [e]; decide), fun e => h (by rw [e]; decide)⟩
  rcases nI_cases v 109 (by decide) with ⟨k, hk, e⟩ | q | q
  · left
    rw [e, show (97 : Int32) = nI 97 from rfl, nI_ltI (by omega) (by omega)]
    rcases Nat.lt_or_ge k 97 with w | w
    · exact w
    · exfalso
      apply h
      rw [e]
      have key : ∀ k, k < 12 → nI (97 + k) ∈ L0 := by decide +kernel
      have := key (k - 97) (by omega)
      rwa [show 97 + (k - 97) = k by omega] at this
  · left; exact Int32.lt_trans q (by decide)
  · right; exact q
end
/-- a thing -/
theorem x_thing {tx : Nat → Int32} {to o : Nat} {z : Bool} {A : ZPF} {G : Nat → PR} {a0 : Int32} (ht : to ≤ 60) (hz : z = true ↔ a0 < 4) (hA : z = true → SX' tx to o (A (a0 + 1)) G) (hB : z = true → GB to G) : SX' tx to o (f_P_thing A a0) (gThing tx to z G) := by
  intro b ms s h hb hl
  have hlen : ms.length ≤ 60 := by omega
  unfold f_P_thing gThing
  refine zT.bnT (p_takes h hb ht 40) ?_
  rintro ⟨_, s1⟩ ⟨rfl, hE1, h1⟩
  dsimp only at *
  refine zT.ite (fun c => ?_) (fun c => ?_)
  · rw [if_pos c] at h1 ⊢
    have hbt := (gis_lt c).1
    refine zT.ite (fun c2 => ?_) (fun c2 => ?_)
    · have cz : z = true := hz.mpr c2
      rw [if_pos cz]
      obtain ⟨g1, g2, g3⟩ := hB cz (b + 1) (by omega)
      refine zT.bnT (hA cz (b + 1) ms s1 h1 (by omega) (by omega)) ?_
      rintro ⟨_, s2⟩ ⟨rfl, hE2, h2⟩
      dsimp only at *
      refine zT.jnQ (fun y => zE (pxp o) s y ∧ ((G (b + 1)).1 = true → gis tx to 41 (G (b + 1)).2.1 = false) ∧ PX tx to o y (G (b + 1)).2.1 (ms ++ (G (b + 1)).2.2)) ?_ ?_
      · rintro y ⟨y1, y2, y3⟩
        by_cases c3 : (G (b + 1)).1 = true
        · rw [if_pos c3, y2 c3, if_neg (by decide)]
          exact zT.ret ⟨rfl, y1, y3⟩
        · rw [if_neg c3]
          exact zT.ret ⟨rfl, y1, y3⟩
      · intro j6 hj6
        refine zT.ite (fun c3 => ?_) (fun c3 => hj6 _ ⟨hE1.trans hE2, fun w => absurd w c3, h2⟩)
        refine zT.bnT (p_takes h2 g2 ht 41) ?_
        rintro ⟨_, s3⟩ ⟨rfl, hE3, h3⟩
        dsimp only at *
        refine zT.ite (fun c4 => ?_) (fun c4 => ?_)
        · rw [if_pos c4] at h3
          rw [if_pos c3, if_pos c4]
          exact zT.ret ⟨rfl, hE1.trans (hE2.trans hE3), h3⟩
        · rw [if_neg c4] at h3
          refine hj6 _ ⟨hE1.trans (hE2.trans hE3), fun _ => ?_, h3⟩
          cases w : gis tx to 41 (G (b + 1)).2.1
          · rfl
          · exact absurd w c4
    · have cz : ¬ z = true := fun w => c2 (hz.mp w)
      rw [if_neg cz, h1.1, nI_pred]
      refine zT.ltS (zT.ret ⟨rfl, hE1.trans (PX.goE s1 b), ?_⟩)
      dsimp only
      rw [List.append_nil]
      exact h1.go b
  rw [if_neg c] at h1 ⊢
  refine zT.bnE (p_isDigit h1 (by omega) ht) ?_
  refine zT.ite (fun c2 => ?_) (fun c2 => ?_)
  · rw [if_pos c2]
    obtain ⟨hbt, d, hd, ed⟩ := gdig_lt c2
    rw [h1.1]
    refine zT.gu (inb_n (by omega) (by decide)) ?_
    rw [ai_n _ _ (by omega), h1.2.2.1 b hbt, nI_1]
    refine zT.ltS (zT.ltS ?_)
    have h2 := h1.go (b + 1)
    have hE2 := hE1.trans (PX.goE s1 (b + 1))
    generalize hs2 : si s1 200 6 (nI (b + 1)) = s2 at h2 hE2 ⊢
    refine zT.bnE (p_isDigit h2 (by omega) ht) ?_
    refine zT.jnQ (fun y => y.1 = (if gdig tx to (b + 1) = true then 10 * (tx b - 48) + tx (b + 1) - 48 else tx b - 48) ∧ zE (pxp o) s y.2 ∧ PX tx to o y.2 (if gdig tx to (b + 1) = true then b + 2 else b + 1) ms) ?_ ?_
    · rintro ⟨_, y⟩ ⟨rfl, hE3, h3⟩
      dsimp only at *
      refine zT.gu (P_isO h3) ?_
      have hm : ∀ v, v < 100 → xph (nI v) = nI v := fun v hv => by
        unfold xph
        rw [if_pos (by rw [show (1000 : Int32) = nI 1000 from rfl, nI_ltI (by omega) (by omega)]; omega)]
      have ev : (if gdig tx to (b + 1) = true then 10 * (tx b - 48) + tx (b + 1) - 48 else tx b - 48) = xph (if gdig tx to (b + 1) = true then 10 * (tx b - 48) + tx (b + 1) - 48 else tx b - 48) := by
        have e1 : tx b - 48 = nI d := by rw [ed, show (48 : Int32) = nI 48 from rfl, pk_sub (by omega)]; congr 1; omega
        by_cases q : gdig tx to (b + 1) = true
        · rw [if_pos q]
          obtain ⟨_, d', hd', ed'⟩ := gdig_lt q
          have e2 : 10 * (tx b - 48) + tx (b + 1) - 48 = nI (10 * d + d') := by
            rw [ed, ed', show (48 : Int32) = nI 48 from rfl, pk_sub (by omega), show (10 : Int32) = nI 10 from rfl, nI_mulL, nI_add, pk_sub (by omega)]
            congr 1
            omega
          rw [e2, hm _ (by omega)]
        · rw [if_neg q, e1, hm _ (by omega)]
      refine zT.bnT (p_append h3 (by omega) ev) ?_
      rintro s4 ⟨hE4, h4⟩
      by_cases q : gdig tx to (b + 1) = true
      · rw [if_pos q] at h4 ⊢
        rw [if_pos q] at h4
        exact zT.ret ⟨rfl, hE3.trans hE4, h4⟩
      · rw [if_neg q] at h4 ⊢
        rw [if_neg q] at h4
        exact zT.ret ⟨rfl, hE3.trans hE4, h4⟩
    · intro j20 hj20
      refine zT.ite (fun c3 => ?_) (fun c3 => ?_)
      · rw [if_pos c3, if_pos c3] at hj20
        obtain ⟨hbt2, _⟩ := gdig_lt c3
        rw [h2.1]
        refine zT.gu (inb_n (by omega) (by decide)) ?_
        rw [ai_n _ _ (by omega), h2.2.2.1 (b + 1) hbt2, nI_1, Int32.mul_comm]
        exact zT.ltS (zT.ltS (hj20 _ ⟨rfl, hE2.trans (PX.goE s2 (b + 2)), h2.go (b + 2)⟩))
      · rw [if_neg c3, if_neg c3] at hj20
        exact hj20 _ ⟨rfl, hE2, h2⟩
  rw [if_neg c2]
  by_cases cm : gmem tx to L0 b = true
  · rw [if_pos cm]
    obtain ⟨hbt, hin⟩ := gmem_lt cm
    obtain ⟨k1, k2⟩ := L0_x _ hin
    generalize 1000 + ixo L0 (tx b) = M at k1 k2 ⊢
    generalize hXe : xph M = X at k1 k2
    have good : ∀ t, zE (pxp o) s t → PX tx to o t (b + 1) (ms ++ [M]) → zT (some (true, t)) (xrP tx to o s (true, b + 1, [M]) ms) := fun t q1 q2 => zT.ret ⟨rfl, q1, q2⟩
    refine zT.jnQ (fun _ => tx b < 97 ∨ 109 ≤ tx b) ?_ ?_
    · rintro _ hout
      have k3 : (if tx b = 110 then (120 : Int32) else if tx b = 114 then 121 else if tx b = 116 then 122 else 0) = X := by
        rcases hout with w | w
        · rw [if_pos w] at k1; exact k1
        · by_cases w2 : tx b < 97
          · rw [if_pos w2] at k1; exact k1
          · rw [if_neg w2, if_pos w] at k1; exact k1
      refine zT.bnT (p_takes h1 hb ht 110) ?_
      rintro ⟨_, s2⟩ ⟨rfl, hE2, h2⟩
      dsimp only at *
      refine zT.jnQ (fun y => y.1 = X ∧ zE (pxp o) s y.2 ∧ PX tx to o y.2 (b + 1) ms) ?_ ?_
      · rintro ⟨_, y⟩ ⟨rfl, hE3, h3⟩
        dsimp only at *
        refine zT.jnQ (fun w => zE (pxp o) s w ∧ PX tx to o w (b + 1) (ms ++ [M])) ?_ ?_
        · rintro w ⟨q1, q2⟩
          exact zT.ie k2 (good w q1 q2)
        · intro j30 hj30
          refine zT.ie k2 (zT.gu (P_isO h3) (zT.bnT (p_append h3 (by omega) (m := M) hXe.symm) ?_))
          rintro s4 ⟨hE4, h4⟩
          exact hj30 _ ⟨hE3.trans hE4, h4⟩
      · intro j34 hj34
        rw [gis_b hbt] at h2 ⊢
        by_cases e1 : tx b = 110
        · rw [if_pos e1] at k3
          rw [decide_eq_true e1] at h2 ⊢
          exact zT.it rfl (hj34 _ ⟨k3, hE1.trans hE2, h2⟩)
        · rw [if_neg e1] at k3
          rw [decide_eq_false e1] at h2 ⊢
          replace h2 : PX tx to o s2 b ms := h2
          refine zT.ie (by decide) (zT.bnT (p_takes h2 hb ht 114) ?_)
          rintro ⟨_, s3⟩ ⟨rfl, hE3, h3⟩
          dsimp only at *
          rw [gis_b hbt] at h3 ⊢
          by_cases e2 : tx b = 114
          · rw [if_pos e2] at k3
            rw [decide_eq_true e2] at h3 ⊢
            exact zT.it rfl (hj34 _ ⟨k3, hE1.trans (hE2.trans hE3), h3⟩)
          · rw [if_neg e2] at k3
            rw [decide_eq_false e2] at h3 ⊢
            replace h3 : PX tx to o s3 b ms := h3
            refine zT.ie (by decide) (zT.bnT (p_takes h3 hb ht 116) ?_)
            rintro ⟨_, s4⟩ ⟨rfl, hE4, h4⟩
            dsimp only at *
            rw [gis_b hbt] at h4 ⊢
            by_cases e3 : tx b = 116
            · rw [if_pos e3] at k3
              rw [decide_eq_true e3] at h4 ⊢
              exact zT.it rfl (hj34 _ ⟨k3, hE1.trans (hE2.trans (hE3.trans hE4)), h4⟩)
            · rw [if_neg e3] at k3
              exact absurd k3.symm k2
    · intro j40 hj40
      rw [h1.2.1, h1.1]
      refine zT.ie (by rw [nI_leI (by omega) (by omega)]; omega) (zT.gu (inb_n (by omega) (by decide)) ?_)
      rw [ai_n _ _ (by omega), h1.2.2.1 b hbt]
      refine zT.ite (fun w => hj40 () (Or.inl w)) (fun w => ?_)
      refine zT.ite (fun w2 => hj40 () (Or.inr w2)) (fun w2 => ?_)
      rw [if_neg w, if_neg w2] at k1
      refine zT.gu (P_isO h1) (zT.bnT (p_append h1 (by omega) (m := M) (k1.trans hXe.symm)) ?_)
      rintro s2 ⟨hE2, h2⟩
      rw [h2.1, nI_1]
      exact zT.ltS (good _ (hE1.trans (hE2.trans (PX.goE s2 (b + 1)))) (h2.go (b + 1)))
  · rw [if_neg cm]
    refine zT.jnQ (fun _ => True) ?_ ?_
    · rintro _ _
      have ng : ∀ c ∈ ([110, 114, 116] : List Int32), gis tx to c b = false := fun c hc => by
        cases w : gis tx to c b
        · rfl
        · exfalso
          obtain ⟨w1, w2⟩ := gis_lt w
          apply cm
          unfold gmem
          have : tx b ∈ L0 := by
            rw [w2]
            have key : ∀ c ∈ ([110, 114, 116] : List Int32), c ∈ L0 := by decide
            exact key c hc
          rw [decide_eq_true w1, decide_eq_true this]; rfl
      refine zT.bnT (p_takes h1 hb ht 110) ?_
      rintro ⟨_, s2⟩ ⟨rfl, hE2, h2⟩
      dsimp only at *
      rw [ng 110 (by decide)] at h2 ⊢
      replace h2 : PX tx to o s2 b ms := h2
      refine zT.jnQ (fun y => y.1 = 0 ∧ zE (pxp o) s y.2 ∧ PX tx to o y.2 b ms) ?_ ?_
      · rintro ⟨_, y⟩ ⟨rfl, hE3, h3⟩
        dsimp only at *
        refine zT.jo (zT.it rfl (zT.it rfl (zT.ret ⟨rfl, hE3, ?_⟩)))
        dsimp only
        rw [List.append_nil]
        exact h3
      · intro j34 hj34
        refine zT.ie (by decide) (zT.bnT (p_takes h2 hb ht 114) ?_)
        rintro ⟨_, s3⟩ ⟨rfl, hE3, h3⟩
        dsimp only at *
        rw [ng 114 (by decide)] at h3 ⊢
        replace h3 : PX tx to o s3 b ms := h3
        refine zT.ie (by decide) (zT.bnT (p_takes h3 hb ht 116) ?_)
        rintro ⟨_, s4⟩ ⟨rfl, hE4, h4⟩
        dsimp only at *
        rw [ng 116 (by decide)] at h4 ⊢
        exact zT.ie (by decide) (hj34 _ ⟨rfl, hE1.trans (hE2.trans (hE3.trans hE4)), h4⟩)
    · intro j40 hj40
      rw [h1.2.1, h1.1]
      refine zT.ite (fun w => hj40 () trivial) (fun w => ?_)
      rw [nI_leI (by omega) (by omega)] at w
      have hbt : b < to := by omega
      refine zT.gu (inb_n (by omega) (by decide)) ?_
      rw [ai_n _ _ (by omega), h1.2.2.1 b hbt]
      have hno := L0_no (v := tx b) (fun w => cm (by unfold gmem; rw [decide_eq_true hbt, decide_eq_true w]; rfl))
      refine zT.ite (fun w => hj40 () trivial) (fun w => ?_)
      exact zT.it (hno.1.resolve_left w) (hj40 () trivial)
end Z91
