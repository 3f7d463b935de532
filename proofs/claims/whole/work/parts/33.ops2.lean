-- sheet, open, about, value, act, why
section Z33
def ssum (g : Nat → Int32) : Nat → Int32
  | 0 => 0
  | k + 1 => ssum g k + g k
def ent (kind v : Int32) : Int32 := imax 0 (imin 99 (if kind = 0 then v.toInt8.toInt32 else if kind = 1 then v.toInt16.toInt32 else v))
def shl (kind n f step : Int32) (b : Nat) : Int32 := if kind = 3 then 99 else if nI b < n then ent kind (f + nI b * step) else 99
def shL2 (kind n f step : Int32) (a : ZA) : Nat → Int32 := fun b => if b < a.2.1.1 then shl kind n f step b else a.2.1.2.2.2.2.1 b
def putL (a : ZA) (lim : Nat → Int32) : ZA := putB a lim a.2.1.2.2.2.2.2 a.2.2.2.1.1 a.2.2.2.1.2.1
def sSheet (kind n f step : Int32) (a : ZA) : Int32 × ZA :=
  if 0 ≤ kind ∧ kind ≤ 3 then (if n ≤ 12 then (if kind = 3 ∨ 0 ≤ n then (if kind = 3 then -3 else ssum (shl kind n f step) a.2.1.1, putL a (shL2 kind n f step a)) else (-2, a)) else (-1, a)) else (-1, a)
theorem step_n (f step : Int32) (k : Nat) : f + nI k * step + step = f + nI (k + 1) * step := by
  rw [nI_succ, Int32.add_mul, Int32.one_mul, Int32.add_assoc]
theorem in03 (v : Int32) : f_M_in v.toInt64 (0 : Int64) (3 : Int64) = decide (0 ≤ v ∧ v ≤ 3) := in_i v 0 3
theorem in04 (v : Int32) : f_M_in v.toInt64 (0 : Int64) (4 : Int64) = decide (0 ≤ v ∧ v ≤ 4) := in_i v 0 4
theorem mz {s s1 : ZSt} {a : ZA} (h : MA s a) (e : s1 = si s 0 0 0) : MA s1 a ∧ zE pMo s s1 ∧ gi s1 0 0 = 0 := by
  subst e
  exact ⟨h.z, zz s, rfl⟩
set_option maxHeartbeats 2000000 in
theorem m_sheet {n' : Nat} {s : ZSt} {a : ZA} (kind n f step : Int32) (hn : 12 < n') (h : MA s a) : zT (f_M_sheet n' kind n f step s) (mP (sSheet kind n f step a).1 (sSheet kind n f step a).2 s) := by
  have hnb := h.1.2.2.2.1
  generalize hr : sSheet kind n f step a = r
  unfold sSheet at hr
  unfold f_M_sheet
  refine zT.ln (fun s1 hs1 => ?_)
  obtain ⟨hz, hE0, _⟩ := mz h hs1
  clear hs1
  rw [in03]
  refine zT.ite (fun c1 => ?_) (fun c1 => ?_)
  · rw [decide_eq_true_eq] at c1
    rw [if_pos c1] at hr
    refine zT.ite (fun c2 => ?_) (fun c2 => ?_)
    · rw [if_pos c2] at hr
      refine zT.jnQ (fun _ => kind = 3 ∨ 0 ≤ n) (fun _ c3 => ?_) (fun j22 hj => ?_)
      · rw [if_pos c3] at hr
        have hc3 : (if kind = 3 ∨ 0 ≤ n then (if kind = 3 then -3 else ssum (shl kind n f step) a.2.1.1, putL a (shL2 kind n f step a)) else (-2, a)) = (if kind = 3 then -3 else ssum (shl kind n f step) a.2.1.1, putL a (shL2 kind n f step a)) := if_pos c3
        subst hr
        refine zT.cnt 12 (fun k x => k ≤ a.2.1.1 ∧ x.1 = ssum (shl kind n f step) k ∧ x.2.1 = f + nI k * step ∧ x.2.2.1 = nI k ∧ zE (fun o _ => o == 104) s1 x.2.2.2 ∧ ∀ b, b < a.2.1.1 → gi x.2.2.2 104 b = if b < k then shl kind n f step b else a.2.1.2.2.2.2.1 b) hn ⟨Nat.zero_le _, rfl, by rw [show nI 0 = (0 : Int32) from rfl, Int32.zero_mul, Int32.add_zero], rfl, zE.refl _ _, fun b hb => by rw [if_neg (by omega)]; exact hz.2.1.2.1 b hb⟩ ?_
        rintro j k ⟨_, _, _, u⟩ hk ⟨hkn, rfl, rfl, rfl, hE, hl⟩ hj
        dsimp only at *
        rw [hE.i (o := 0) rfl, hz.2.1.1.1]
        refine zT.ite (fun c4 => ?_) (fun c4 => ?_)
        · rw [nI_leI (by omega) (by omega)] at c4
          have e : k = a.2.1.1 := by omega
          subst e
          have hE2 : zE pml s1 u := hE.mono (fun o j e => by simp [pml] at *; omega)
          have fin : MA u (putL a (shL2 kind n f step a)) := hz.lim hE2 _ _ (okA_lim hz.1 _) (fun b hb => by
            rw [hl b hb]
            unfold shL2
            rw [if_pos hb]) (fun v hv => (hE.i (o := 107) rfl).trans (hz.2.1.2.2.2.1 v hv).1)
          refine zT.ite (fun c5 => ?_) (fun c5 => ?_)
          · exact zT.ret ⟨by rw [if_pos c5], hE0.trans (pml_mo hE2), fin⟩
          · exact zT.ret ⟨by rw [if_neg c5], hE0.trans (pml_mo hE2), fin⟩
        · rw [nI_leI (by omega) (by omega)] at c4
          refine zT.ln (fun x9 hx9 => zT.ln (fun x10 hx10 => ?_))
          have e10 : x10 = shl kind n f step k := by
            rw [hx10, hx9]; rfl
          subst e10
          refine zT.gu (inb_n (by omega) (by decide)) ?_
          rw [sai_n _ _ _ (by omega)]
          refine zT.ltS ?_
          rw [ai_n _ _ (by omega), gi_i, if_pos ⟨rfl, rfl⟩]
          refine zT.ltS (zT.ltS (zT.ltS ?_))
          rw [nI_1, step_n]
          refine hj (by omega) _ ⟨by omega, rfl, rfl, rfl, hE.wi rfl, fun b hb => ?_⟩
          dsimp only
          rw [gi_i]
          by_cases e : b = k
          · rw [if_pos ⟨rfl, e⟩, if_pos (by omega), e]
          · rw [if_neg (fun q => e q.2), hl b hb]
            by_cases q : b < k
            · rw [if_pos q, if_pos (by omega)]
            · rw [if_neg q, if_neg (by omega)]
      · refine zT.ite (fun c3 => hj () (Or.inl c3)) (fun c3 => ?_)
        refine zT.ite (fun c4 => hj () (Or.inr c4)) (fun c4 => ?_)
        rw [if_neg (fun q => q.elim c3 c4)] at hr
        subst hr
        exact zT.ret ⟨rfl, hE0, hz⟩
    · rw [if_neg c2] at hr
      subst hr
      exact zT.ret ⟨rfl, hE0, hz⟩
  · rw [decide_eq_true_eq] at c1
    rw [if_neg c1] at hr
    subst hr
    exact zT.ret ⟨rfl, hE0, hz⟩
set_option maxHeartbeats 2000000 in
theorem x_sheet {n' T : Nat} {s : ZSt} {a : ZA} (kind n f step : Int32) (hn : 12 < n') (h : XX s T a) : zT (f_X_sheet n' kind n f step s) (xP (sSheet kind n f step a).1 T (sSheet kind n f step a).2 s) := by
  have hnb := h.1.2.2.2.1
  obtain ⟨hA, ⟨st, hst, hB⟩, hO⟩ := id h
  have h3 := hB.1.1.1
  generalize hr : sSheet kind n f step a = r
  unfold sSheet at hr
  unfold f_X_sheet
  refine zT.ite (fun c0 => ?_) (fun c0 => ?_)
  · rw [if_neg (fun q => absurd q.1 (Int32.not_le.mpr c0))] at hr
    subst hr
    exact zT.ret ⟨rfl, zE.refl _ _, h⟩
  refine zT.ite (fun c1 => ?_) (fun c1 => ?_)
  · rw [if_neg (fun q => absurd q.2 (Int32.not_le.mpr c1))] at hr
    subst hr
    exact zT.ret ⟨rfl, zE.refl _ _, h⟩
  rw [if_pos ⟨Int32.not_lt.mp c0, Int32.not_lt.mp c1⟩] at hr
  refine zT.ite (fun c2 => ?_) (fun c2 => ?_)
  · rw [if_pos c2] at hr
    refine zT.jnQ (fun _ => kind = 3 ∨ 0 ≤ n) (fun _ c3 => ?_) (fun j22 hj => ?_)
    · rw [if_pos c3] at hr
      subst hr
      refine zT.ln (fun x5 hx5 => ?_)
      refine zT.cnt 12 (fun k x => k ≤ a.2.1.1 ∧ x.1 = ssum (shl kind n f step) k ∧ x.2.1 = nI k ∧ zE (fun o j => decide (300 ≤ o) && decide (o < 300 + a.2.1.1) && j == 3) s x.2.2 ∧ ∀ b, b < a.2.1.1 → gi x.2.2 (300 + b) 3 = if b < k then shl kind n f step b else a.2.1.2.2.2.2.1 b) hn ⟨Nat.zero_le _, rfl, rfl, zE.refl _ _, fun b hb => by rw [if_neg (by omega)]; exact hB.2.1 b hb⟩ ?_
      rintro j k ⟨_, _, u⟩ hk ⟨hkn, rfl, rfl, hE, hl⟩ hj
      dsimp only at *
      rw [hE.i (by simp), h3]
      refine zT.ite (fun c4 => ?_) (fun c4 => ?_)
      · rw [nI_leI (by omega) (by omega)] at c4
        have e : k = a.2.1.1 := by omega
        subst e
        have hE2 : zE (fun o j => o == 241 || (decide (300 ≤ o) && decide (o < 300 + a.2.1.1) && j == 3)) s u := hE.mono (fun o j e => by simp at *; exact e.2)
        have hE3 : zE pXo s u := hE.mono (fun o j e => by simp [pXo] at *; omega)
        have fin : XX u T (putL a (shL2 kind n f step a)) := h.lim hE2 _ _ (okA_lim hA _) (fun b hb => by
          rw [hl b hb]
          unfold shL2
          rw [if_pos hb]) (fun v hv => (hE.i (by simp)).trans (hB.1.2.2 v hv).1)
        refine zT.ite (fun c5 => ?_) (fun c5 => ?_)
        · exact zT.ret ⟨by rw [if_pos c5], hE3, fin⟩
        · exact zT.ret ⟨by rw [if_neg c5], hE3, fin⟩
      · rw [nI_leI (by omega) (by omega)] at c4
        refine zT.ln (fun x10 hx10 => ?_)
        have e10 : x10 = shl kind n f step k := by
          rw [hx10, hx5]
          unfold shl ent f_X_entry
          by_cases q3 : kind = 3
          · rw [if_pos q3, if_pos q3, if_pos (nI_pos' (by omega))]
          · rw [if_neg q3, if_neg q3]
            by_cases q4 : nI k < n
            · rw [if_pos q4, if_neg (Int32.not_le.mpr q4)]
              by_cases q5 : kind = 0
              · rw [if_pos q5, if_pos q5]
              · rw [if_neg q5, if_neg q5]
                by_cases q6 : kind = 1
                · rw [if_pos q6, if_pos q6]
                · rw [if_neg q6, if_neg q6]
            · rw [if_neg q4, if_pos (Int32.not_lt.mp q4)]
        subst e10
        refine zT.gu (inb_n (by omega) (by decide)) ?_
        rw [ra_b (by omega)]
        refine zT.ltS (zT.ltS (zT.ltS ?_))
        rw [nI_1]
        refine hj (by omega) _ ⟨by omega, rfl, rfl, hE.wi (by simp; omega), fun b hb => ?_⟩
        dsimp only
        rw [gi_i]
        by_cases e : b = k
        · rw [if_pos ⟨by omega, rfl⟩, if_pos (by omega), e]
        · rw [if_neg (fun q => e (by omega)), hl b hb]
          by_cases q : b < k
          · rw [if_pos q, if_pos (by omega)]
          · rw [if_neg q, if_neg (by omega)]
    · refine zT.ite (fun c3 => ?_) (fun c3 => ?_)
      · refine hj () (Or.inl ?_)
        exact Int32.le_antisymm (Int32.not_lt.mp c1) c3
      · refine zT.ite (fun c4 => hj () (Or.inr c4)) (fun c4 => ?_)
        rw [if_neg (fun q => q.elim (fun e => c3 (by rw [e]; decide)) c4)] at hr
        subst hr
        exact zT.ret ⟨rfl, zE.refl _ _, h⟩
  · rw [if_neg c2] at hr
    subst hr
    exact zT.ret ⟨rfl, zE.refl _ _, h⟩
-- open
def sOpen (x : Int32) (a : ZA) : Int32 := if inb x 3 = true then nI (a.2.2.2.1.1 x.toNatClampNeg) else -1
theorem m_open {s : ZSt} {a : ZA} (x : Int32) (h : MA s a) : zT (f_M_open x s) (mP (sOpen x a) a s) := by
  unfold f_M_open sOpen
  refine zT.ln (fun s1 hs1 => ?_)
  obtain ⟨hz, hE0, _⟩ := mz h hs1
  rw [inb_isTab]
  by_cases c : inb x 3 = true
  · rw [if_pos c, if_pos c]
    refine zT.gu c (zT.ret ⟨?_, hE0, hz⟩)
    obtain ⟨k, hk, rfl⟩ := (inb_iff (by omega)).mp c
    show ai s1 108 (nI k) = _
    rw [ai_n _ _ (by omega), nI_clamp (by omega)]
    exact hz.2.1.2.2.2.2.1 k hk
  · rw [if_neg c, if_neg c]
    exact zT.ret ⟨rfl, hE0, hz⟩
theorem x_open {s : ZSt} {T : Nat} {a : ZA} (x : Int32) (h : XX s T a) : f_X_open x s = sOpen x a := by
  obtain ⟨hA, ⟨st, hst, hB⟩, hO⟩ := h
  unfold f_X_open sOpen
  rw [inb_xTab]
  by_cases c : inb x 3 = true
  · rw [if_pos c, if_pos c]
    obtain ⟨k, hk, rfl⟩ := (inb_iff (by omega)).mp c
    rw [hB.2.2.2.1, on_e hB.S hk, nI_clamp (by omega)]
  · rw [if_neg c, if_neg c]
-- what may throw
def pXL : Nat → Nat → Bool := fun o _ => o == 1 || o == 200 || o == 201 || (decide (203 ≤ o) && decide (o < 260)) || (decide (270 ≤ o) && decide (o < 551))
def mPT (r : Option Int32) (a : ZA) (s : ZSt) : Int32 × ZSt → Prop := fun q => q.1 = r.getD 0 ∧ gi q.2 0 0 = (if r.isSome = true then 0 else 1) ∧ zE pMo s q.2 ∧ MA q.2 a
def xPT (r : Option Int32) (T : Nat) (a : ZA) (s : ZSt) : Int32 × ZSt → Prop := fun q => q.1 = (if r.isSome = true then 0 else 1) ∧ (∀ v, r = some v → al q.2 550 0 = v.toInt64) ∧ zE pXL s q.2 ∧ XX q.2 T a
theorem xo_xl {s t : ZSt} (h : zE pXo s t) : zE pXL s t := h.mono (fun o j e => by simp [pXo, pXL] at *; omega)
theorem x_some {s t : ZSt} {T k : Nat} {a : ZA} (v : Int32) (hE : zE pXo s t) (h : XX t T a) : zT (some (wrapF (some v, k, t))) (xPT (some v) T a s) := by
  have hE2 : zE (fun o _ => o == 550) t (sal t 550 0 v.toInt64) := (zE.refl _ _).wl rfl
  refine zT.ret ⟨rfl, fun w e => ?_, (xo_xl hE).trans (hE2.mono (fun o j e => by simp [pXL] at *; omega)), h.fr hE2 (fun o j e => by simp [qX] at *; omega)⟩
  cases e
  rfl
theorem x_none {s : ZSt} {T k : Nat} {a : ZA} (h : XX s T a) : zT (some (wrapF (none, k, s))) (xPT none T a s) := zT.ret ⟨rfl, fun w e => (by cases e), zE.refl _ _, h⟩
theorem m_refuse {s t : ZSt} {a : ZA} (hE : zE pMo s t) (h : MA t a) : zT (f_M_refuse t) (mPT none a s) := by
  unfold f_M_refuse
  have hE2 : zE p00 t (si t 0 0 1) := (zE.refl _ _).wi rfl
  exact zT.ltS (zT.ret ⟨rfl, rfl, hE.trans (hE2.mono (fun o j e => by simp [pMo, p00] at *; omega)), h.fr hE2 (fun o j e => by simp [qM, p00] at *; omega)⟩)
def sAbout (b w : Int32) (a : ZA) : Option Int32 :=
  if inb b a.2.1.1 = true then (if w = 0 then some (a.2.1.2.2.2.2.1 b.toNatClampNeg) else if w = 1 then some (a.2.2.2.1.2.1 b.toNatClampNeg) else if w = 2 then some (tI (tof a.2.2.2.1.1 b.toNatClampNeg)) else if w = 3 then some (nI (cntr a.2.2.2.1.2.2.1 b.toNatClampNeg a.2.2.1.1)) else if w = 4 then some (nI (lat (dD a.2.1 a.2.2.1 a.2.2.2.1) b.toNatClampNeg).toNat) else none) else none
theorem m_about {n : Nat} {s : ZSt} {a : ZA} (b w : Int32) (hn : 6 < n) (h : MA s a) : zT (f_M_about n b w s) (mPT (sAbout b w a) a s) := by
  have hnb := h.1.2.2.2.1
  generalize hr : sAbout b w a = r
  unfold sAbout at hr
  unfold f_M_about
  refine zT.ln (fun s1 hs1 => ?_)
  obtain ⟨hz, hE0, h00⟩ := mz h hs1
  clear hs1
  have hC := hz.2.1
  rw [inb_isBook hC.1.1 hnb, in04]
  have ok : ∀ v, some v = r → zT (some (v, s1)) (mPT r a s) := fun v e => by
    subst e; exact zT.ret ⟨rfl, h00, hE0, hz⟩
  refine zT.jnQ (fun _ => none = r) (fun _ e => ?_) (fun j4 hj => ?_)
  · subst e
    refine zT.bnT (m_refuse hE0 hz) ?_
    rintro ⟨v, t⟩ q
    exact zT.ret q
  · refine zT.ite (fun c1 => ?_) (fun c1 => ?_)
    · rw [if_pos c1] at hr
      obtain ⟨k, hk, rfl⟩ := (inb_iff (by omega)).mp c1
      rw [nI_clamp (by omega)] at hr
      refine zT.ite (fun c2 => ?_) (fun c2 => ?_)
      · rw [decide_eq_true_eq] at c2
        refine zT.ite (fun q => ?_) (fun q => ?_)
        · rw [if_pos q] at hr
          refine zT.gu (inb_n (by omega) (by decide)) (ok _ ?_)
          rw [ai_n _ _ (by omega), hC.2.1 k hk]; exact hr
        rw [if_neg q] at hr
        refine zT.ite (fun q => ?_) (fun q => ?_)
        · rw [if_pos q] at hr
          refine zT.gu (inb_n (by omega) (by decide)) (ok _ ?_)
          rw [ai_n _ _ (by omega), hC.2.2.1 k (by omega)]; exact hr
        rw [if_neg q] at hr
        refine zT.ite (fun q => ?_) (fun q => ?_)
        · rw [if_pos q] at hr
          exact zT.bnE (m_tableOf (by omega) hC.2.2.2.2.1 hC.S (by omega)) (ok _ hr)
        rw [if_neg q] at hr
        refine zT.ite (fun q => ?_) (fun q => ?_)
        · rw [if_pos q] at hr
          exact zT.bnE (m_readBy hn hC.1.2.2.1 hC.1.2.2.2.1 hC.1.2.2.2.2.1 (by omega)) (ok _ hr)
        rw [if_neg q] at hr
        refine zT.bnE (m_isSecond hn hC.1 hk) (ok _ ?_)
        rename_i q0 q1 q2
        have e4 : w = 4 := by
          obtain ⟨v, hv, rfl⟩ : ∃ v, v < 5 ∧ w = nI v := by
            rcases nI_cases w 5 (by decide) with ⟨v, hv, rfl⟩ | e | e
            · exact ⟨v, hv, rfl⟩
            · exact absurd c2.1 (Int32.not_le.mpr e)
            · exact absurd (Int32.le_trans e c2.2) (by decide)
          rcases (show v = 0 ∨ v = 1 ∨ v = 2 ∨ v = 3 ∨ v = 4 by omega) with rfl | rfl | rfl | rfl | rfl
          · exact absurd rfl q0
          · exact absurd rfl q1
          · exact absurd rfl q2
          · exact absurd rfl q
          · rfl
        rw [if_pos e4] at hr
        rw [flag_t]; exact hr
      · rw [decide_eq_true_eq] at c2
        refine hj () ?_
        rw [if_neg (fun e => c2 (by rw [e]; decide)), if_neg (fun e => c2 (by rw [e]; decide)), if_neg (fun e => c2 (by rw [e]; decide)), if_neg (fun e => c2 (by rw [e]; decide)), if_neg (fun e => c2 (by rw [e]; decide))] at hr
        exact hr
    · rw [if_neg c1] at hr
      exact hj () hr
theorem x_about {n T : Nat} {s : ZSt} {a : ZA} (b w : Int32) (hn : 6 < n) (h : XX s T a) : zT (f_L_about n b w s) (xPT (sAbout b w a) T a s) := by
  have hnb := h.1.2.2.2.1
  obtain ⟨hA, ⟨st, hst, hB⟩, hO⟩ := id h
  have h3 := hB.1.1.1
  generalize hr : sAbout b w a = r
  unfold sAbout at hr
  unfold f_L_about f_X_about
  rw [inb_has h3 hnb]
  refine zT.bi ?_
  refine zT.ite (fun c1 => ?_) (fun c1 => ?_)
  · rw [if_pos c1] at hr
    obtain ⟨k, hk, rfl⟩ := (inb_iff (by omega)).mp c1
    rw [nI_clamp (by omega)] at hr
    rw [ra_b (by omega)]
    refine zT.gu (inb_n (by omega) (by decide)) ?_
    refine zT.ite (fun q => ?_) (fun q => ?_)
    · rw [if_pos q] at hr
      subst hr
      rw [hB.2.1 k hk]
      exact zT.ret (x_some _ (zE.refl _ _) h)
    rw [if_neg q] at hr
    refine zT.ite (fun q => ?_) (fun q => ?_)
    · rw [if_pos q] at hr
      subst hr
      rw [hB.2.2.1 k (by omega)]
      exact zT.ret (x_some _ (zE.refl _ _) h)
    rw [if_neg q] at hr
    refine zT.ite (fun q => ?_) (fun q => ?_)
    · rw [if_pos q] at hr
      subst hr
      rw [hB.2.2.2.1]
      exact zT.bnE (x_tableOf (by omega) hB.S (by omega)) (zT.ret (x_some _ (zE.refl _ _) h))
    rw [if_neg q] at hr
    refine zT.ite (fun q => ?_) (fun q => ?_)
    · rw [if_pos q] at hr
      subst hr
      rw [(hB.1.1.2.2 k hk).2.2.2.2.2.2.1]
      exact zT.ret (x_some _ (zE.refl _ _) h)
    rw [if_neg q] at hr
    refine zT.ite (fun q => ?_) (fun q => ?_)
    · rw [if_pos q] at hr
      subst hr
      refine zT.bnE (b_isLater hB.1.1 hk) ?_
      cases lat (dD a.2.1 a.2.2.1 a.2.2.2.1) k
      · exact zT.ret (x_some _ (zE.refl _ _) h)
      · exact zT.ret (x_some _ (zE.refl _ _) h)
    rw [if_neg q] at hr
    subst hr
    exact zT.ret (x_none h)
  · rw [if_neg c1] at hr
    subst hr
    exact zT.ret (x_none h)
-- value
def sValue (b t : Int32) (a : ZA) : Option Int32 := if inb b a.2.1.1 = true ∧ inb t 3 = true then some (val (dD a.2.1 a.2.2.1 a.2.2.2.1) b.toNatClampNeg t.toNatClampNeg (a.2.2.2.1.1 t.toNatClampNeg)) else none
theorem m_value {n : Nat} {s : ZSt} {a : ZA} (b t : Int32) (hn : 60 < n) (h : MA s a) : zT (f_M_value n b t s) (mPT (sValue b t a) a s) := by
  have hnb := h.1.2.2.2.1
  generalize hr : sValue b t a = r
  unfold sValue at hr
  unfold f_M_value
  refine zT.ln (fun s1 hs1 => ?_)
  obtain ⟨hz, hE0, h00⟩ := mz h hs1
  clear hs1
  have hC := hz.2.1
  rw [inb_isBook hC.1.1 hnb, inb_isTab]
  refine zT.jnQ (fun _ => none = r) (fun _ e => ?_) (fun j4 hj => ?_)
  · subst e
    refine zT.bnT (m_refuse hE0 hz) ?_
    rintro ⟨v, t⟩ q
    exact zT.ret q
  · refine zT.ite (fun c1 => ?_) (fun c1 => ?_)
    · refine zT.ite (fun c2 => ?_) (fun c2 => ?_)
      · rw [if_pos ⟨c1, c2⟩] at hr
        obtain ⟨k, hk, rfl⟩ := (inb_iff (by omega)).mp c1
        obtain ⟨u, hu, rfl⟩ := (inb_iff (by omega)).mp c2
        rw [nI_clamp (by omega), nI_clamp (by omega)] at hr
        refine zT.gu c2 ?_
        rw [ai_n _ _ (by omega), hC.2.2.2.2.1 u hu]
        refine zT.bnT (m_conditionOf hn hC.1 hk) ?_
        rintro ⟨v, t2⟩ ⟨rfl, hE⟩
        subst hr
        exact zT.ret ⟨rfl, (hE.i (o := 0) rfl).trans h00, hE0.trans (p116_mo hE), hz.s116 hE⟩
      · rw [if_neg (fun q => c2 q.2)] at hr
        exact hj () hr
    · rw [if_neg (fun q => c1 q.1)] at hr
      exact hj () hr
theorem x_value {n T : Nat} {s : ZSt} {a : ZA} (b t : Int32) (hn : 60 < n) (h : XX s T a) : zT (f_L_value n b t s) (xPT (sValue b t a) T a s) := by
  have hnb := h.1.2.2.2.1
  obtain ⟨hA, ⟨st, hst, hB⟩, hO⟩ := id h
  have h3 := hB.1.1.1
  generalize hr : sValue b t a = r
  unfold sValue at hr
  unfold f_L_value f_X_value
  rw [inb_has h3 hnb, inb_xTab]
  refine zT.bi ?_
  refine zT.jnQ (fun _ => none = r) (fun _ e => ?_) (fun j4 hj => ?_)
  · subst e
    exact zT.ret (x_none h)
  · refine zT.ite (fun c1 => ?_) (fun c1 => ?_)
    · refine zT.ite (fun c2 => ?_) (fun c2 => ?_)
      · rw [if_pos ⟨c1, c2⟩] at hr
        obtain ⟨k, hk, rfl⟩ := (inb_iff (by omega)).mp c1
        obtain ⟨u, hu, rfl⟩ := (inb_iff (by omega)).mp c2
        rw [nI_clamp (by omega), nI_clamp (by omega)] at hr
        refine zT.gu (inb_n (by omega) (by decide)) ?_
        rw [ra_b (by omega), hB.2.2.2.1, on_e hB.S hu]
        refine x_val hn hB.1.1 hk (hB.1.1.2.2 k hk).2.2.2.2.2.2.1 ?_
        intro v hE
        subst hr
        refine zT.ret (x_some _ (hE.mono (fun o j e => by simp [pXo, p475] at *; omega)) (h.fr hE (fun o j e => by simp [qX, p475] at *; omega)))
      · rw [if_neg (fun q => c2 q.2)] at hr
        exact hj () hr
    · rw [if_neg (fun q => c1 q.1)] at hr
      exact hj () hr
end Z33
