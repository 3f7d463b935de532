-- night, reader, sit, read, of, count, row, log
section Z35
def nit (D : ZD) (nb : Nat) (f : Nat → Nat) (m k : Nat) : Nat → Nat := fun t => if t < k then stt D nb t (f t &&& m) else f t
theorem nit_s (D : ZD) (nb : Nat) (f : Nat → Nat) (m k : Nat) : nit D nb f m (k + 1) = ups (nit D nb f m k) k (stt D nb k (f k &&& m)) := by
  funext t
  unfold nit ups
  dsimp only
  by_cases e : t = k
  · rw [if_pos e, if_pos (by omega), e]
  · rw [if_neg e]
    by_cases q : t < k
    · rw [if_pos q, if_pos (by omega)]
    · rw [if_neg q, if_neg (by omega)]
theorem nit_0 (D : ZD) (nb : Nat) (f : Nat → Nat) (m : Nat) : nit D nb f m 0 = f := by
  funext t
  unfold nit
  rw [if_neg (by omega)]
theorem nit_k (D : ZD) (nb : Nat) (f : Nat → Nat) (m k : Nat) : nit D nb f m k k = f k := by unfold nit; rw [if_neg (by omega)]
theorem sub_ok {nb : Nat} {f g : Nat → Nat} (h : okF nb f) (hs : ∀ t, t < 3 → g t ≤ f t ∧ ∀ i, (g t).testBit i = true → (f t).testBit i = true) : okF nb g := by
  refine ⟨fun t ht => Nat.lt_of_le_of_lt (hs t ht).1 (h.1 t ht), fun i => ?_⟩
  obtain ⟨d1, d2, d3⟩ := h.2 i
  have q0 := (hs 0 (by decide)).2 i
  have q1 := (hs 1 (by decide)).2 i
  have q2 := (hs 2 (by decide)).2 i
  revert d1 d2 d3 q0 q1 q2
  generalize (f 0).testBit i = A
  generalize (f 1).testBit i = B
  generalize (f 2).testBit i = C
  generalize (g 0).testBit i = A'
  generalize (g 1).testBit i = B'
  generalize (g 2).testBit i = C'
  cases A <;> cases B <;> cases C <;> revert A' B' C' <;> decide
theorem nit_ok {D : ZD} {nb m k : Nat} {f : Nat → Nat} (h : okF nb f) : okF nb (nit D nb f m k) := sub_ok h (fun t ht => by
  unfold nit
  split
  · exact ⟨Nat.le_trans (stl_le _ _ 12) Nat.and_le_left, fun i hi => by
      have := stt_sub hi
      rw [Nat.testBit_and] at this
      exact (Bool.and_eq_true_iff.mp this).1⟩
  · exact ⟨Nat.le_refl _, fun i hi => hi⟩)
def sNight (x : Int32) (a : ZA) : Int32 × ZA := if inb x (2 ^ a.2.1.1) = true then (nI (anyw (nit (aD a) a.2.1.1 a.2.2.2.1.1 x.toNatClampNeg 3)), putA a (nit (aD a) a.2.1.1 a.2.2.2.1.1 x.toNatClampNeg 3) a.2.2.2.1.2.1) else (-1, a)
theorem okA_f {a : ZA} (h : okA a) {f : Nat → Nat} (hf : okF a.2.1.1 f) : okA (putA a f a.2.2.2.1.2.1) := okA_put h h.2.2.2.2.1 hf h.2.2.2.2.2.2.2.1.2.1
theorem m_night {n : Nat} {s : ZSt} {a : ZA} (x : Int32) (hn : 60 < n) (h : MA s a) : zT (f_M_night n x s) (mP (sNight x a).1 (sNight x a).2 s) := by
  have hnb := h.1.2.2.2.1
  generalize hr : sNight x a = r
  unfold sNight at hr
  unfold f_M_night
  refine zT.ln (fun s1 hs1 => ?_)
  obtain ⟨hz, hE0, h00⟩ := mz h hs1
  clear hs1
  rw [inb_areBooks hz.2.1.1.1 hnb]
  refine zT.ite (fun c => ?_) (fun c => ?_)
  · rw [if_pos c] at hr
    have hp : 2 ^ a.2.1.1 ≤ 4096 := Nat.pow_le_pow_right (n := 2) (by decide) hnb
    obtain ⟨m, hm, rfl⟩ := (inb_iff (by omega)).mp c
    rw [nI_clamp (by omega)] at hr
    subst hr
    refine zT.cnt 3 (fun k x => x.1 = nI (match k with | 0 => 0 | 1 => nit (aD a) a.2.1.1 a.2.2.2.1.1 m 1 0 | 2 => nit (aD a) a.2.1.1 a.2.2.2.1.1 m 2 0 ||| nit (aD a) a.2.1.1 a.2.2.2.1.1 m 2 1 | _ => anyw (nit (aD a) a.2.1.1 a.2.2.2.1.1 m 3)) ∧ x.2.1 = nI k ∧ zE pact s1 x.2.2 ∧ MC x.2.2 (putA a (nit (aD a) a.2.1.1 a.2.2.2.1.1 m k) a.2.2.2.1.2.1)) (by omega) ⟨rfl, rfl, zE.refl _ _, by rw [nit_0]; exact hz.2.1⟩ ?_
    rintro j k ⟨_, _, u⟩ hk ⟨rfl, rfl, hE, hC⟩ hj
    dsimp only at *
    refine zT.ite (fun c4 => ?_) (fun c4 => ?_)
    · rw [show (3 : Int32) = nI 3 from rfl, nI_leI (by omega) (by omega)] at c4
      have e : k = 3 := by omega
      subst e
      exact zT.ret ⟨rfl, hE0.trans (hE.mono (fun o j e => by simp [pMo, pact] at *; omega)), hz.put hE (fun o j e1 e2 => by simp [qM, pact] at *; omega) (okA_f hz.1 (nit_ok hz.1.2.2.2.2.2.2.2.1.1)) hC⟩
    · rw [show (3 : Int32) = nI 3 from rfl, nI_leI (by omega) (by omega)] at c4
      have hk3 : k < 3 := by omega
      refine zT.gu (inb_n hk3 (by decide)) ?_
      have hF := hz.1.2.2.2.2.2.2.2.1.1
      have hg : gi u 108 k = nI (a.2.2.2.1.1 k) := (hC.2.2.2.2.1 k hk3).trans (congrArg nI (nit_k _ _ _ _ _))
      rw [ai_n _ _ (by omega), hg, nI_and]
      have hCM : RMc u a.2.1.1 a.2.2.1.1 a.2.2.2.1.2.2.1 (aD a) := hC.1
      refine zT.bnT (m_settled hn hCM (set := a.2.2.2.1.1 k &&& m) (Nat.lt_of_le_of_lt Nat.and_le_left (hF.1 k hk3))) ?_
      rintro ⟨_, v⟩ ⟨rfl, hE2⟩
      refine zT.ltS ?_
      rw [sai_n _ _ _ (by omega)]
      have e5 : gi (si v 108 k (nI (sto (fun x => mmk (aD a) k x a.2.1.1) (a.2.2.2.1.1 k &&& m)))) 108 k = nI (stt (aD a) a.2.1.1 k (a.2.2.2.1.1 k &&& m)) := by rw [gi_i, if_pos ⟨rfl, rfl⟩]; rfl
      have hE3 : zE pact u (si v 108 k (nI (sto (fun x => mmk (aD a) k x a.2.1.1) (a.2.2.2.1.1 k &&& m)))) := (le_act hE2).wi rfl
      have hC3 : MC (si v 108 k (nI (sto (fun x => mmk (aD a) k x a.2.1.1) (a.2.2.2.1.1 k &&& m)))) (putA a (nit (aD a) a.2.1.1 a.2.2.2.1.1 m (k + 1)) a.2.2.2.1.2.1) := by
        refine MK.put hC hE3 (fun t ht => ?_) (nit_ok hF)
        rw [nit_s]
        show _ = nI (ups (nit (aD a) a.2.1.1 a.2.2.2.1.1 m k) k (stt (aD a) a.2.1.1 k (a.2.2.2.1.1 k &&& m)) t)
        rw [ups_i]
        by_cases e : t = k
        · subst e; rw [if_pos rfl]; exact e5
        · rw [if_neg e, gi_i, if_neg (fun q => e q.2), hE2.i (o := 108) rfl]
          exact hC.2.2.2.2.1 t ht
      refine zT.ltS ?_
      dsimp only
      rw [ai_n _ _ (by omega)]
      refine zT.ltS ?_
      rw [nI_1]
      refine hj hk3 _ ⟨?_, rfl, hE.trans hE3, hC3⟩
      dsimp only
      have e6 := hC3.2.2.2.2.1 k hk3
      rw [e5]
      have e7 : nit (aD a) a.2.1.1 a.2.2.2.1.1 m (k + 1) k = stt (aD a) a.2.1.1 k (a.2.2.2.1.1 k &&& m) := by rw [nit_s, ups_s]
      rw [← e7]
      rcases (show k = 0 ∨ k = 1 ∨ k = 2 by omega) with rfl | rfl | rfl
      · exact (nI_or _ _).trans (congrArg nI (Nat.zero_or _))
      · rw [nI_or]; rfl
      · rw [nI_or]; rfl
  · rw [if_neg c] at hr
    subst hr
    exact zT.ret ⟨rfl, hE0, hz⟩
theorem x_night {n T : Nat} {s : ZSt} {a : ZA} (x : Int32) (hn : 60 < n) (h : XX s T a) : zT (f_X_night n x s) (xP (sNight x a).1 T (sNight x a).2 s) := by
  have hnb := h.1.2.2.2.1
  obtain ⟨hA, ⟨st, hst, hB⟩, hO⟩ := id h
  generalize hr : sNight x a = r
  unfold sNight at hr
  unfold f_X_night
  rw [inb_beyond hB.1.1.1 hnb]
  by_cases c : inb x (2 ^ a.2.1.1) = true
  · rw [if_pos c] at hr
    have hp : 2 ^ a.2.1.1 ≤ 4096 := Nat.pow_le_pow_right (n := 2) (by decide) hnb
    obtain ⟨m, hm, rfl⟩ := (inb_iff (by omega)).mp c
    rw [nI_clamp (by omega)] at hr
    subst hr
    rw [c]
    refine zT.ie (by decide) ?_
    have hF := hA.2.2.2.2.2.2.2.1.1
    refine zT.cnt 3 (fun k x => x.1 = nI k ∧ zE pxk s x.2 ∧ XB x.2 st (putA a (nit (aD a) a.2.1.1 a.2.2.2.1.1 m k) a.2.2.2.1.2.1)) (by omega) ⟨rfl, zE.refl _ _, by rw [nit_0]; exact hB⟩ ?_
    rintro j k ⟨_, u⟩ hk ⟨rfl, hE, hX⟩ hj
    dsimp only at *
    have hFk : okF a.2.1.1 (nit (aD a) a.2.1.1 a.2.2.2.1.1 m k) := nit_ok hF
    rw [hX.2.2.2.1]
    refine zT.ite (fun c4 => ?_) (fun c4 => ?_)
    · rw [show (3 : Int32) = nI 3 from rfl, nI_leI (by omega) (by omega)] at c4
      have e : k = 3 := by omega
      subst e
      exact zT.ret ⟨gd_any hFk hnb, pxk_xo hE, XX.put2 hA hst hO hE (okA_f hA hFk) hX⟩
    · rw [show (3 : Int32) = nI 3 from rfl, nI_leI (by omega) (by omega)] at c4
      have hk3 : k < 3 := by omega
      have hS := hFk.S hnb
      have hlt := okS_t hS hk3
      show zT (lt (sl u 1 8 (f_X_with (lN (en (nit (aD a) a.2.1.1 a.2.2.2.1.1 m k))) (nI k) (f_X_on (lN (en (nit (aD a) a.2.1.1 a.2.2.2.1.1 m k))) (nI k) &&& nI m))) _) _
      have hand : nit (aD a) a.2.1.1 a.2.2.2.1.1 m k k &&& m < 4096 := Nat.lt_of_le_of_lt Nat.and_le_left hlt
      rw [on_e hS hk3, nI_and, with_e hS hk3 hand]
      have hF2 : okF a.2.1.1 (ups (nit (aD a) a.2.1.1 a.2.2.2.1.1 m k) k (nit (aD a) a.2.1.1 a.2.2.2.1.1 m k k &&& m)) := sub_ok hFk (fun t ht => by
        unfold ups
        by_cases e : t = k
        · subst e
          rw [if_pos rfl]
          exact ⟨Nat.and_le_left, fun i hi => by rw [Nat.testBit_and] at hi; exact (Bool.and_eq_true_iff.mp hi).1⟩
        · rw [if_neg e]; exact ⟨Nat.le_refl _, fun i hi => hi⟩)
      have hX2 := XA.now hX hF2
      refine zT.ltS ?_
      rw [hX2.2.2.2.1]
      refine zT.bnT (t_settled hn hX2.1 hk3 (hF2.S hnb)) ?_
      rintro ⟨_, v⟩ ⟨rfl, hE2, hK⟩
      have eg : ups (ups (nit (aD a) a.2.1.1 a.2.2.2.1.1 m k) k (nit (aD a) a.2.1.1 a.2.2.2.1.1 m k k &&& m)) k (sto (fun x => mmk (aD a) k x a.2.1.1) (ups (nit (aD a) a.2.1.1 a.2.2.2.1.1 m k) k (nit (aD a) a.2.1.1 a.2.2.2.1.1 m k k &&& m) k)) = nit (aD a) a.2.1.1 a.2.2.2.1.1 m (k + 1) := by
        rw [ups_s, ups_ups, nit_s, nit_k]; rfl
      refine zT.ltS (zT.ltS ?_)
      rw [nI_1]
      refine hj hk3 _ ⟨rfl, ?_, ?_⟩
      · exact ((hE.wl rfl).trans (pmb_xk hE2)).wl rfl
      · dsimp only
        show XA (sl v 1 8 (lN (en (ups (ups (nit (aD a) a.2.1.1 a.2.2.2.1.1 m k) k (nit (aD a) a.2.1.1 a.2.2.2.1.1 m k k &&& m)) k (sto (fun x => mmk (aD a) k x a.2.1.1) (ups (nit (aD a) a.2.1.1 a.2.2.2.1.1 m k) k (nit (aD a) a.2.1.1 a.2.2.2.1.1 m k k &&& m) k)))))) _ _ _ _ _ _ _
        rw [eg]
        exact XA.now (XA.fr hX2 hE2 hK) (nit_ok hF)
  · rw [if_neg c] at hr
    subst hr
    have c' : inb x (2 ^ a.2.1.1) = false := by cases q : inb x (2 ^ a.2.1.1) <;> simp_all
    rw [c']
    exact zT.it rfl (zT.ret ⟨rfl, zE.refl _ _, h⟩)
end Z35
