-- keep in the class
section Z53
theorem nI_nneg {k : Nat} (h : k < 2 ^ 31) : ¬ nI k < 0 := fun w => Nat.not_lt_zero k ((nI_ltI (b := 0) h (by decide)).mp w)
def pkx (i : Nat) : Nat → Nat → Bool := fun o _ => o == 510 + i || o == 520 + i || o == 525 + i || o == 530 + i || o == 535 + i
def pk2 (i : Nat) : Nat → Nat → Bool := fun o _ => o == 525 + i || o == 530 + i || o == 535 + i
theorem XKp.onI {s t : ZSt} {i T : Nat} {q : Option (ZS × Nat)} (h : XKp s i T q) (hq : ∀ o j, (o == 510 + i || o == 520 + i || o == 525 + i || o == 530 + i || o == 535 + i) = true → gi t o j = gi s o j ∧ gl t o j = gl s o j) : XKp t i T q := by
  cases q with
  | none => exact (hq _ _ (by simp)).1.trans h
  | some w =>
    obtain ⟨S, m⟩ := w
    obtain ⟨a, b, c, ⟨tot, d1, d2, d3⟩, e, f, g⟩ := h
    exact ⟨(hq _ _ (by simp)).1.trans a, (hq _ _ (by simp)).2.trans b, (hq _ _ (by simp)).1.trans c, ⟨tot, d1, (hq _ _ (by simp)).1.trans d2, d3.on (fun j => (hq _ _ (by simp)).1)⟩, (hq _ _ (by simp)).1.trans e, fun k hk => (hq _ _ (by simp)).1.trans (f k hk), fun k hk => ⟨(hq _ _ (by simp)).1.trans (g k hk).1, (hq _ _ (by simp)).1.trans (g k hk).2⟩⟩
set_option maxHeartbeats 2000000 in
theorem x_keep {n T : Nat} {s : ZSt} {a : ZA} (x : Int32) (hn : 100 < n) (h : XX s T a) : zT (f_X_keep n x s) (xP (sKeep x a).1 T (sKeep x a).2 s) := by
  have hnb := h.1.2.2.2.1
  have hnr := h.1.2.2.2.2.2.1
  obtain ⟨hA, ⟨st, hst, hB⟩, hO⟩ := id h
  generalize hr : sKeep x a = r
  unfold sKeep at hr
  unfold f_X_keep
  rcases nI_cases x 3 (by decide) with ⟨i, hi, rfl⟩ | q | q
  · rw [if_pos (inb_n hi (by decide)), nI_clamp (by omega)] at hr
    refine zT.ie (nI_nneg (by omega)) (zT.it (show nI i < nI 3 from (nI_ltI (by omega) (by omega)).mpr hi) ?_)
    refine zT.gu (inb_n hi (by decide)) ?_
    rw [ra_k (by omega)]
    obtain ⟨k1, k2, k3, k4, ⟨k5, k6, k7⟩, ⟨k8, tot, k9, k10, k11⟩, k12⟩ := id hO
    have h18 : gl s 1 8 = lN (en a.2.2.2.1.1) := hB.2.2.2.1
    have hE1 : zE (pkx i) s (cpyA (si (si (si (sl (si s (510 + i) 0 (b2i true)) (510 + i) 1 (gl s 1 8)) (510 + i) 2 (gi s 1 9)) (510 + i) 3 (gi s 1 11)) (510 + i) 4 (gi s 1 7)) 210 (520 + i) 60) := by
      refine zE.trans (t := si (si (si (sl (si s (510 + i) 0 (b2i true)) (510 + i) 1 (gl s 1 8)) (510 + i) 2 (gi s 1 9)) (510 + i) 3 (gi s 1 11)) (510 + i) 4 (gi s 1 7)) ?_ ?_
      · exact (((((zE.refl _ _).wi (by simp [pkx])).wl (by simp [pkx])).wi (by simp [pkx])).wi (by simp [pkx])).wi (by simp [pkx])
      · intro o j e
        have : ¬ o = 520 + i := fun w => by simp [pkx, w] at e
        exact ⟨by rw [gi_c, if_neg (fun w => this w.1)], gl_c _ _ _ _ _ _⟩
    refine zT.ltS (zT.ltS ?_)
    rw [show gl (si s (510 + i) 0 (b2i true)) 1 8 = gl s 1 8 from rfl]
    rw [show gi (sl (si s (510 + i) 0 (b2i true)) (510 + i) 1 (gl s 1 8)) 1 9 = gi s 1 9 from by
      rw [gi_l, gi_i, if_neg (by omega)]]
    refine zT.ltS ?_
    rw [show gi (si (sl (si s (510 + i) 0 (b2i true)) (510 + i) 1 (gl s 1 8)) (510 + i) 2 (gi s 1 9)) 1 11 = gi s 1 11 from by
      rw [gi_i, if_neg (by omega), gi_l, gi_i, if_neg (by omega)]]
    refine zT.ltS ?_
    rw [show gi (si (si (sl (si s (510 + i) 0 (b2i true)) (510 + i) 1 (gl s 1 8)) (510 + i) 2 (gi s 1 9)) (510 + i) 3 (gi s 1 11)) 1 7 = gi s 1 7 from by
      rw [gi_i, if_neg (by omega), gi_i, if_neg (by omega), gi_l, gi_i, if_neg (by omega)]]
    refine zT.ltS ?_
    rw [show 510 + i + 10 = 520 + i by omega, show 510 + i + 15 = 525 + i by omega, show 510 + i + 20 = 530 + i by omega, show 510 + i + 25 = 535 + i by omega, show (60 : Int32).toNatClampNeg = 60 from rfl]
    have f0 : gi (cpyA (si (si (si (sl (si s (510 + i) 0 (b2i true)) (510 + i) 1 (gl s 1 8)) (510 + i) 2 (gi s 1 9)) (510 + i) 3 (gi s 1 11)) (510 + i) 4 (gi s 1 7)) 210 (520 + i) 60) (510 + i) 0 = 1 := by
      simp [gi_c, gi_i, gi_l]; rfl
    have f1 : gl (cpyA (si (si (si (sl (si s (510 + i) 0 (b2i true)) (510 + i) 1 (gl s 1 8)) (510 + i) 2 (gi s 1 9)) (510 + i) 3 (gi s 1 11)) (510 + i) 4 (gi s 1 7)) 210 (520 + i) 60) (510 + i) 1 = lN (en a.2.2.2.1.1) := by
      simp [gl_c, gl_i, gl_l, h18]
    have f2 : gi (cpyA (si (si (si (sl (si s (510 + i) 0 (b2i true)) (510 + i) 1 (gl s 1 8)) (510 + i) 2 (gi s 1 9)) (510 + i) 3 (gi s 1 11)) (510 + i) 4 (gi s 1 7)) 210 (520 + i) 60) (510 + i) 2 = a.2.2.2.1.2.2.2.2.1 := by
      simp [gi_c, gi_i, gi_l, k8]
    have f3 : gi (cpyA (si (si (si (sl (si s (510 + i) 0 (b2i true)) (510 + i) 1 (gl s 1 8)) (510 + i) 2 (gi s 1 9)) (510 + i) 3 (gi s 1 11)) (510 + i) 4 (gi s 1 7)) 210 (520 + i) 60) (510 + i) 3 = nI tot := by
      simp [gi_c, gi_i, gi_l, k10]
    have f4 : gi (cpyA (si (si (si (sl (si s (510 + i) 0 (b2i true)) (510 + i) 1 (gl s 1 8)) (510 + i) 2 (gi s 1 9)) (510 + i) 3 (gi s 1 11)) (510 + i) 4 (gi s 1 7)) 210 (520 + i) 60) (510 + i) 4 = nI a.2.2.1.1 := by
      simp [gi_c, gi_i, gi_l, k5]
    have f5 : XLg (cpyA (si (si (si (sl (si s (510 + i) 0 (b2i true)) (510 + i) 1 (gl s 1 8)) (510 + i) 2 (gi s 1 9)) (510 + i) 3 (gi s 1 11)) (510 + i) 4 (gi s 1 7)) 210 (520 + i) 60) (520 + i) tot a.2.2.2.1.2.2.2.2.2 := by
      refine ⟨k11.1, fun k hk => ?_⟩
      rw [gi_c, if_pos ⟨rfl, Nat.mod_lt _ (by decide)⟩, ← k11.2 k hk]
      rw [gi_i, if_neg (by omega), gi_i, if_neg (by omega), gi_i, if_neg (by omega), gi_l, gi_i, if_neg (by omega)]
    refine zT.ln (fun s9 hs9 => ?_)
    rw [← hs9] at hE1 f0 f1 f2 f3 f4 f5
    clear hs9
    refine zT.cnt 12 (fun k x => x.1 = nI k ∧ zE (pk2 i) s9 x.2 ∧ ∀ b, b < k → gi x.2 (525 + i) b = a.2.2.2.1.2.1 b) (by omega) ⟨rfl, zE.refl _ _, fun t ht => absurd ht (Nat.not_lt_zero _)⟩ ?_
    rintro j k ⟨_, u⟩ hk ⟨rfl, hE, g1⟩ hj
    dsimp only at *
    refine zT.ite (fun c1 => ?_) (fun c1 => ?_)
    · rw [show (12 : Int32) = nI 12 from rfl, nI_leI (by omega) (by omega)] at c1
      have e : k = 12 := by omega
      subst e
      clear hj
      refine zT.cnt 6 (fun k x => x.1 = nI k ∧ zE (pk2 i) s9 x.2 ∧ (∀ b, b < 12 → gi x.2 (525 + i) b = a.2.2.2.1.2.1 b) ∧ ∀ r, r < k → gi x.2 (530 + i) r = gi s (500 + r) 1 ∧ gi x.2 (535 + i) r = gi s (500 + r) 3) (by omega) ⟨rfl, hE, g1, fun t ht => absurd ht (Nat.not_lt_zero _)⟩ ?_
      rintro j k ⟨_, v⟩ hk ⟨rfl, hE, g1, g2⟩ hj
      dsimp only at *
      refine zT.ite (fun c1 => ?_) (fun c1 => ?_)
      · rw [show (6 : Int32) = nI 6 from rfl, nI_leI (by omega) (by omega)] at c1
        have e : k = 6 := by omega
        subst e
        subst hr
        have hEa : zE (pkx i) s v := hE1.trans (hE.mono (fun o j e => by simp [pkx, pk2] at *; omega))
        refine zT.ret ⟨rfl, hEa.mono (fun o j e => by simp [pXo, pkx] at *; omega), okA_keep hA i, ⟨st, hst, XA.fr2 hB hEa ⟨⟨by simp [pkx] <;> omega, fun b hb => ⟨by simp [pkx] <;> omega, by simp [pkx] <;> omega, by simp [pkx] <;> omega, by simp [pkx] <;> omega, fun k => by simp [pkx] <;> omega, fun k => by simp [pkx] <;> omega⟩, fun t => by simp [pkx] <;> omega⟩, by simp [pkx] <;> omega, fun b hb => ⟨by simp [pkx] <;> omega, by simp [pkx] <;> omega⟩, by simp [pkx] <;> omega, fun j => ⟨by simp [pkx] <;> omega, by simp [pkx] <;> omega⟩⟩⟩, k1.fr hEa ⟨by simp [pkx] <;> omega, fun _ => by simp [pkx] <;> omega⟩, k2.fr hEa ⟨by simp [pkx] <;> omega, fun _ => by simp [pkx] <;> omega⟩, k3.fr hEa ⟨by simp [pkx] <;> omega, fun _ => by simp [pkx] <;> omega⟩, k4.fr hEa (fun b hb => ⟨by simp [pkx] <;> omega, by simp [pkx] <;> omega⟩), hO.2.2.2.2.1.fr hnr hEa ⟨by simp [pkx] <;> omega, fun r j hr => by simp [pkx] <;> omega⟩, hO.2.2.2.2.2.1.fr hEa ⟨by simp [pkx] <;> omega, by simp [pkx] <;> omega, fun _ => by simp [pkx] <;> omega⟩, fun i' hi' => ?_⟩
        show XKp v i' T (ups a.2.2.2.2 i (some (a.2.2.2.1, a.2.2.1.1)) i')
        rw [ups_i]
        by_cases q : i' = i
        · rw [if_pos q, q]
          refine ⟨(hE.i (by simp [pk2] <;> omega)).trans f0, (hE.l (by simp [pk2] <;> omega)).trans f1, (hE.i (by simp [pk2] <;> omega)).trans f2, ⟨tot, k9, (hE.i (by simp [pk2] <;> omega)).trans f3, f5.on (fun j => hE.i (by simp [pk2] <;> omega))⟩, (hE.i (by simp [pk2] <;> omega)).trans f4, g1, fun r hr => ?_⟩
          obtain ⟨w1, w2, w3, w4⟩ := k6 r hr
          obtain ⟨w5, w6⟩ := g2 r (by omega)
          exact ⟨w5.trans w2, w6.trans w4⟩
        · rw [if_neg q]
          exact (k12 i' hi').onI (fun o j e => hEa o j (by simp [pkx] at *; omega))
      · rw [show (6 : Int32) = nI 6 from rfl, nI_leI (by omega) (by omega)] at c1
        refine zT.gu (inb_n (by omega) (by decide)) ?_
        have hEa : zE (pkx i) s v := hE1.trans (hE.mono (fun o j e => by simp [pkx, pk2] at *; omega))
        rw [ra_r (by omega), sai_n _ _ _ (by omega)]
        refine zT.ltS ?_
        rw [sai_n _ _ _ (by omega)]
        refine zT.ltS ?_
        rw [nI_1]
        refine zT.ltS ?_
        refine hj (by omega) _ ⟨rfl, (hE.wi (by simp [pk2])).wi (by simp [pk2]), fun b hb => ?_, fun r hr => ⟨?_, ?_⟩⟩
        · rw [gi_i, if_neg (by omega), gi_i, if_neg (by omega)]; exact g1 b hb
        · rw [gi_i, if_neg (by omega), gi_i]
          by_cases e : r = k
          · rw [if_pos ⟨rfl, e⟩, hEa.i (by simp [pkx] <;> omega), e]
          · rw [if_neg (fun w => e w.2)]; exact (g2 r (by omega)).1
        · rw [gi_i]
          by_cases e : r = k
          · rw [if_pos ⟨rfl, e⟩, gi_i, if_neg (by omega), hEa.i (by simp [pkx] <;> omega), e]
          · rw [if_neg (fun w => e w.2), gi_i, if_neg (by omega)]; exact (g2 r (by omega)).2
    · rw [show (12 : Int32) = nI 12 from rfl, nI_leI (by omega) (by omega)] at c1
      refine zT.gu (inb_n (by omega) (by decide)) ?_
      have hEa : zE (pkx i) s u := hE1.trans (hE.mono (fun o j e => by simp [pkx, pk2] at *; omega))
      rw [ra_b (by omega), sai_n _ _ _ (by omega), hEa.i (by simp [pkx] <;> omega), hB.2.2.1 k (by omega)]
      refine zT.ltS ?_
      rw [nI_1]
      refine zT.ltS ?_
      refine hj (by omega) _ ⟨rfl, hE.wi (by simp [pk2]), fun b hb => ?_⟩
      rw [gi_i]
      by_cases e : b = k
      · rw [if_pos ⟨rfl, e⟩, e]
      · rw [if_neg (fun w => e w.2)]; exact g1 b (by omega)
  · rw [if_neg (fun w => absurd q (by obtain ⟨k, hk, rfl⟩ := (inb_iff (by omega)).mp w; exact nI_nneg (by omega)))] at hr
    subst hr
    exact zT.it q (zT.ret ⟨rfl, zE.refl _ _, h⟩)
  · rw [if_neg (fun w => absurd q (by obtain ⟨k, hk, rfl⟩ := (inb_iff (by omega)).mp w; exact nI_ge hk (by decide)))] at hr
    subst hr
    refine zT.ite (fun _ => zT.ret ⟨rfl, zE.refl _ _, h⟩) (fun _ => zT.ie (Int32.not_lt.mpr q) (zT.ret ⟨rfl, zE.refl _ _, h⟩))
end Z53
