-- ring, knot
section Z58
def gR (a : ZA) (u : Nat) : Nat := mkm (fun v => decide (a.2.2.2.1.2.2.2.1 v ≠ a.2.2.2.1.2.2.2.1 u) && decide (ndf (a.2.2.1.2.2 u) (a.2.2.2.1.2.2.1 u) &&& a.2.2.2.1.1 (a.2.2.2.1.2.2.2.1 v) ≠ 0)) a.2.2.1.1
noncomputable def sRing (a : ZA) : Int32 × ZA := sTell (gR a) a.2.2.1.1 a
def p130 : Nat → Nat → Bool := fun o _ => o == 130
theorem MA.s130 {s t : ZSt} {a : ZA} (h : MA s a) (hE : zE p130 s t) : MA t a := h.fr hE (fun o j e => by simp [qM, p130] at *; omega)
theorem p130_mo {s t : ZSt} (h : zE p130 s t) : zE pMo s t := h.mono (fun o j e => by simp [pMo, p130] at *; omega)
theorem gR_1 (a : ZA) (i l : Nat) (h1 : 1 ≤ l) (h2 : l < 2) : (nr (gR a) i a.2.2.1.1 l).testBit i = false := by
  have e : l = 0 + 1 := by omega
  subst e
  cases q : (nr (gR a) i a.2.2.1.1 (0 + 1)).testBit i
  · rfl
  · obtain ⟨_, _, v, q1, q2⟩ := nr_t.mp q
    rw [show nr (gR a) i a.2.2.1.1 0 = 2 ^ i from rfl, tb2, decide_eq_true_eq] at q2
    subst q2
    unfold gR at q1
    rw [mkm_t, decide_eq_false (show ¬ a.2.2.2.1.2.2.2.1 i ≠ a.2.2.2.1.2.2.2.1 i from fun w => w rfl), Bool.false_and, Bool.and_false] at q1
    cases q1
set_option maxHeartbeats 1000000 in
theorem m_ring {n : Nat} {s : ZSt} {a : ZA} (hn : 5000 < n) (h : MA s a) : zT (f_M_ring n s) (mP (sRing a).1 (sRing a).2 s) := by
  have hnb := h.1.2.2.2.1
  have hnr := h.1.2.2.2.2.2.1
  have h12 := pw_12 hnb
  unfold f_M_ring
  refine zT.ln (fun s1 hs1 => ?_)
  obtain ⟨hz, hE0, h00⟩ := mz h hs1
  clear hs1
  refine zT.cnt 6 (fun k x => k ≤ a.2.2.1.1 ∧ x.1 = nI k ∧ zE p130 s1 x.2 ∧ ∀ u, u < k → gi x.2 130 u = nI (gR a u)) (by omega) ⟨Nat.zero_le _, rfl, zE.refl _ _, fun u hu => absurd hu (Nat.not_lt_zero _)⟩ ?_
  rintro j k ⟨_, t⟩ hk6 ⟨hkn, rfl, hE, f1⟩ hj
  dsimp only at *
  have hM := hz.s130 hE
  rw [hM.2.1.1.2.2.1]
  refine zT.ite (fun c => ?_) (fun c => ?_)
  · rw [nI_leI (by omega) (by omega)] at c
    have e : k = a.2.2.1.1 := by omega
    subst e
    refine zT.bnT (m_tellsRing (fr := 2) (g := gR a) (by omega) (show a.2.2.1.1 ≤ 12 by omega) hM (fun u hu => ⟨f1 u hu, mkm_lt _ _⟩) (by omega) (by omega) (fun i l _ h1 h2 => gR_1 a i l h1 h2)) ?_
    rintro ⟨_, v⟩ ⟨rfl, hE2, hM2⟩
    exact zT.ret ⟨rfl, hE0.trans ((p130_mo hE).trans hE2), hM2⟩
  · rw [nI_leI (by omega) (by omega)] at c
    refine zT.gu (inb_n (by omega) (by decide)) ?_
    rw [sai_n _ _ _ (by omega)]
    refine zT.ltS ?_
    refine zT.cnt 6 (fun i x => i ≤ a.2.2.1.1 ∧ x.1 = nI i ∧ zE p130 s1 x.2 ∧ (∀ u, u < k → gi x.2 130 u = nI (gR a u)) ∧ gi x.2 130 k = nI (mkm (fun v => decide (a.2.2.2.1.2.2.2.1 v ≠ a.2.2.2.1.2.2.2.1 k) && decide (ndf (a.2.2.1.2.2 k) (a.2.2.2.1.2.2.1 k) &&& a.2.2.2.1.1 (a.2.2.2.1.2.2.2.1 v) ≠ 0)) i)) (by omega) ⟨Nat.zero_le _, rfl, hE.wi rfl, fun u hu => by rw [gi_i, if_neg (by omega)]; exact f1 u hu, by rw [gi_i, if_pos ⟨rfl, rfl⟩]; rfl⟩ ?_
    rintro j9 i ⟨_, u⟩ hi6 ⟨hin, rfl, hE2, f2, f3⟩ hj9
    dsimp only at *
    have hM2 := hz.s130 hE2
    rw [hM2.2.1.1.2.2.1]
    refine zT.ite (fun c1 => ?_) (fun c1 => ?_)
    · rw [nI_leI (by omega) (by omega)] at c1
      have e : i = a.2.2.1.1 := by omega
      subst e
      rw [nI_1]
      refine zT.ltS (hj (by omega) _ ⟨by omega, rfl, hE2, fun w hw => ?_⟩)
      by_cases q : w = k
      · rw [q]; exact f3
      · exact f2 w (by omega)
    · rw [nI_leI (by omega) (by omega)] at c1
      refine zT.gu (inb_n (by omega) (by decide)) (zT.gu (inb_n (by omega) (by decide)) ?_)
      have hsi := (hM2.1.2.2.2.2.2.2.2.1.2.2.1 i (by omega)).2
      have hsk := (hM2.1.2.2.2.2.2.2.2.1.2.2.1 k (by omega)).2
      have hfl := hM2.1.2.2.2.2.2.2.2.1.1.1 _ hsi
      rw [ai_n u 110 (show i < 2 ^ 31 by omega), ai_n u 110 (show k < 2 ^ 31 by omega), ai_n u 130 (show k < 2 ^ 31 by omega), (hM2.2.2.2.2.2.1 i (by omega)).1, (hM2.2.2.2.2.2.1 k (by omega)).1, f3]
      have hml := mkm_lt (fun v => decide (a.2.2.2.1.2.2.2.1 v ≠ a.2.2.2.1.2.2.2.1 k) && decide (ndf (a.2.2.1.2.2 k) (a.2.2.2.1.2.2.1 k) &&& a.2.2.2.1.1 (a.2.2.2.1.2.2.2.1 v) ≠ 0)) i
      refine zT.jnQ (fun y => y = nI (if (decide (a.2.2.2.1.2.2.2.1 i ≠ a.2.2.2.1.2.2.2.1 k) && decide (ndf (a.2.2.1.2.2 k) (a.2.2.2.1.2.2.1 k) &&& a.2.2.2.1.1 (a.2.2.2.1.2.2.2.1 i) ≠ 0)) = true then 2 ^ i else 0)) ?_ ?_
      · rintro _ rfl
        rw [sai_n _ _ _ (by omega), nI_or]
        refine zT.ltS ?_
        rw [nI_1]
        refine zT.ltS (hj9 (by omega) _ ⟨by omega, rfl, hE2.wi rfl, fun w hw => ?_, ?_⟩)
        · dsimp only
          rw [gi_i, if_neg (by omega)]; exact f2 w hw
        · dsimp only
          rw [gi_i, if_pos ⟨rfl, rfl⟩, mkm_s]
          congr 1
          split
          · rfl
          · exact Nat.or_zero _
      · intro j17 hj17
        refine zT.jnQ (fun _ => (decide (a.2.2.2.1.2.2.2.1 i ≠ a.2.2.2.1.2.2.2.1 k) && decide (ndf (a.2.2.1.2.2 k) (a.2.2.2.1.2.2.1 k) &&& a.2.2.2.1.1 (a.2.2.2.1.2.2.2.1 i) ≠ 0)) = false) ?_ ?_
        · rintro _ q
          exact hj17 _ (by rw [if_neg (by rw [q]; decide)]; rfl)
        · intro j19 hj19
          refine zT.ite (fun c2 => ?_) (fun c2 => ?_)
          · have c2 := (nI_eq (by omega) (by omega)).mp c2
            exact hj19 _ (by rw [decide_eq_false (fun w => w c2), Bool.false_and])
          · have c2 : a.2.2.2.1.2.2.2.1 i ≠ a.2.2.2.1.2.2.2.1 k := fun w => c2 (by rw [w])
            refine zT.bnE (m_leftOf hM2 (by omega)) ?_
            refine zT.gu (inb_n (by omega) (by decide)) ?_
            have hle : ndf (a.2.2.1.2.2 k) (a.2.2.2.1.2.2.1 k) &&& a.2.2.2.1.1 (a.2.2.2.1.2.2.2.1 i) ≤ a.2.2.2.1.1 (a.2.2.2.1.2.2.2.1 i) := Nat.and_le_right
            rw [ai_n _ _ (by omega), hM2.2.1.2.2.2.2.1 _ hsi, nI_and]
            refine zT.ite (fun c3 => ?_) (fun c3 => ?_)
            · have c3 := (nI_eq (b := 0) (by omega) (by decide)).mp c3
              exact hj19 _ (by rw [c3]; simp)
            · have c3 : ¬ ndf (a.2.2.1.2.2 k) (a.2.2.2.1.2.2.1 k) &&& a.2.2.2.1.1 (a.2.2.2.1.2.2.2.1 i) = 0 := fun w => c3 (by rw [w]; rfl)
              rw [shI_n (by omega)]
              exact hj17 _ (by rw [if_pos (by simp [c2, c3])])
def p217 : Nat → Nat → Bool := fun o _ => o == 217
theorem p217_2 {s t : ZSt} (h : zE p217 s t) : zE p218 s t := h.mono (fun o j e => by simp [p217, p218] at *; omega)
set_option maxHeartbeats 1000000 in
theorem x_ring {n T : Nat} {s : ZSt} {a : ZA} (hn : 5000 < n) (h : XX s T a) : zT (f_X_ring n s) (xP (sRing a).1 T (sRing a).2 s) := by
  have hnb := h.1.2.2.2.1
  have hnr := h.1.2.2.2.2.2.1
  have h12 := pw_12 hnb
  unfold f_X_ring
  refine zT.cnt 6 (fun k x => k ≤ a.2.2.1.1 ∧ x.1 = nI k ∧ zE p217 s x.2 ∧ ∀ u, u < k → gi x.2 217 u = nI (gR a u)) (by omega) ⟨Nat.zero_le _, rfl, zE.refl _ _, fun u hu => absurd hu (Nat.not_lt_zero _)⟩ ?_
  rintro j k ⟨_, t⟩ hk6 ⟨hkn, rfl, hE, f1⟩ hj
  dsimp only at *
  have hX := h.s218 (p217_2 hE)
  have h17 : gi t 1 7 = nI a.2.2.1.1 := hX.2.2.2.2.2.2.1.1
  rw [h17]
  refine zT.ite (fun c => ?_) (fun c => ?_)
  · rw [nI_leI (by omega) (by omega)] at c
    have e : k = a.2.2.1.1 := by omega
    subst e
    refine zT.bnT (x_tellRing (g := gR a) (by omega) (show a.2.2.1.1 ≤ 12 by omega) hX (fun u hu => ⟨f1 u hu, mkm_lt _ _⟩)) ?_
    rintro ⟨_, v⟩ ⟨rfl, hE2, hM2⟩
    exact zT.ret ⟨rfl, (p218_xo (p217_2 hE)).trans hE2, hM2⟩
  · rw [nI_leI (by omega) (by omega)] at c
    refine zT.gu (inb_n (by omega) (by decide)) ?_
    rw [sai_n _ _ _ (by omega)]
    refine zT.ltS ?_
    refine zT.cnt 6 (fun i x => i ≤ a.2.2.1.1 ∧ x.1 = nI i ∧ zE p217 s x.2 ∧ (∀ u, u < k → gi x.2 217 u = nI (gR a u)) ∧ gi x.2 217 k = nI (mkm (fun v => decide (a.2.2.2.1.2.2.2.1 v ≠ a.2.2.2.1.2.2.2.1 k) && decide (ndf (a.2.2.1.2.2 k) (a.2.2.2.1.2.2.1 k) &&& a.2.2.2.1.1 (a.2.2.2.1.2.2.2.1 v) ≠ 0)) i)) (by omega) ⟨Nat.zero_le _, rfl, hE.wi rfl, fun u hu => by rw [gi_i, if_neg (by omega)]; exact f1 u hu, by rw [gi_i, if_pos ⟨rfl, rfl⟩]; rfl⟩ ?_
    rintro j9 i ⟨_, u⟩ hi6 ⟨hin, rfl, hE2, f2, f3⟩ hj9
    dsimp only at *
    have hX2 := h.s218 (p217_2 hE2)
    have h17 : gi u 1 7 = nI a.2.2.1.1 := hX2.2.2.2.2.2.2.1.1
    rw [h17]
    refine zT.ite (fun c1 => ?_) (fun c1 => ?_)
    · rw [nI_leI (by omega) (by omega)] at c1
      have e : i = a.2.2.1.1 := by omega
      subst e
      rw [nI_1]
      refine zT.ltS (hj (by omega) _ ⟨by omega, rfl, hE2, fun w hw => ?_⟩)
      by_cases q : w = k
      · rw [q]; exact f3
      · exact f2 w (by omega)
    · rw [nI_leI (by omega) (by omega)] at c1
      have hO := hX2.2.2
      obtain ⟨hA, ⟨st, hst, hB⟩, _⟩ := id hX2
      have hsi := (hX2.1.2.2.2.2.2.2.2.1.2.2.1 i (by omega)).2
      have hsk := (hX2.1.2.2.2.2.2.2.2.1.2.2.1 k (by omega)).2
      have hfl := hX2.1.2.2.2.2.2.2.2.1.1.1 _ hsi
      have hml := mkm_lt (fun v => decide (a.2.2.2.1.2.2.2.1 v ≠ a.2.2.2.1.2.2.2.1 k) && decide (ndf (a.2.2.1.2.2 k) (a.2.2.2.1.2.2.1 k) &&& a.2.2.2.1.1 (a.2.2.2.1.2.2.2.1 v) ≠ 0)) i
      refine zT.gu (inb_n (by omega) (by decide)) ?_
      rw [ra_r (by omega), ra_r (by omega), (hO.2.2.2.2.1.2.1 i (by omega)).2.1, (hO.2.2.2.2.1.2.1 k (by omega)).2.1]
      refine zT.ltS (zT.gu (inb_n (by omega) (by decide)) ?_)
      refine zT.jnQ (fun y => zE p217 s y ∧ (∀ w, w < k → gi y 217 w = nI (gR a w)) ∧ gi y 217 k = nI (mkm (fun v => decide (a.2.2.2.1.2.2.2.1 v ≠ a.2.2.2.1.2.2.2.1 k) && decide (ndf (a.2.2.1.2.2 k) (a.2.2.2.1.2.2.1 k) &&& a.2.2.2.1.1 (a.2.2.2.1.2.2.2.1 v) ≠ 0)) (i + 1))) ?_ ?_
      · rintro y ⟨q1, q2, q3⟩
        rw [nI_1]
        exact zT.ltS (hj9 (by omega) _ ⟨by omega, rfl, q1, q2, q3⟩)
      · intro j16 hj16
        rw [mkm_s] at hj16
        refine zT.ite (fun c2 => ?_) (fun c2 => ?_)
        · have c2 := (nI_eq (by omega) (by omega)).mp c2
          exact hj16 _ ⟨hE2, f2, by rw [if_neg (by rw [decide_eq_false (fun w => w c2), Bool.false_and]; decide)]; exact f3⟩
        · have c2 : a.2.2.2.1.2.2.2.1 i ≠ a.2.2.2.1.2.2.2.1 k := fun w => c2 (by rw [w])
          refine zT.bnE (x_left hA hO (by omega)) ?_
          rw [hB.2.2.2.1, on_e hB.S hsi, nI_and]
          have hle : ndf (a.2.2.1.2.2 k) (a.2.2.2.1.2.2.1 k) &&& a.2.2.2.1.1 (a.2.2.2.1.2.2.2.1 i) ≤ a.2.2.2.1.1 (a.2.2.2.1.2.2.2.1 i) := Nat.and_le_right
          refine zT.ite (fun c3 => ?_) (fun c3 => ?_)
          · have c3 := (nI_eq (b := 0) (by omega) (by decide)).mp c3
            exact hj16 _ ⟨hE2, f2, by rw [if_neg (by rw [c3]; simp)]; exact f3⟩
          · have c3 : ¬ ndf (a.2.2.1.2.2 k) (a.2.2.2.1.2.2.1 k) &&& a.2.2.2.1.1 (a.2.2.2.1.2.2.2.1 i) = 0 := fun w => c3 (by rw [w]; rfl)
            rw [shI_n (by omega), ai_n _ _ (by omega), f3, nI_or, sai_n _ _ _ (by omega)]
            refine zT.ltS (hj16 _ ⟨hE2.wi rfl, fun w hw => by rw [gi_i, if_neg (by omega)]; exact f2 w hw, ?_⟩)
            rw [gi_i, if_pos ⟨rfl, rfl⟩, if_pos (by simp [c2, c3])]
-- knot
def gK (a : ZA) (t u : Nat) : Nat := if (lks a u t (2 ^ a.2.1.1)).2.2.2 = 0 then 2 ^ u else (lks a u t (2 ^ a.2.1.1)).1
noncomputable def sKnot (x : Int32) (a : ZA) : Int32 × ZA := if inb x 3 = true then sTell (gK a x.toNatClampNeg) a.2.1.1 a else (-1, a)
theorem gK_lt {a : ZA} {t u : Nat} (hu : u < a.2.1.1) : gK a t u < 2 ^ a.2.1.1 := by
  unfold gK
  have key : ∀ k, (lks a u t k).1 < 2 ^ a.2.1.1 := by
    intro k
    induction k with
    | zero => exact oth_lt hu
    | succ k ih =>
      rw [lks_s]
      split
      · exact Nat.lt_of_le_of_lt Nat.and_le_left ih
      · exact ih
  split
  · exact p2_lt hu
  · exact key _
def pkn : Nat → Nat → Bool := fun o j => o == 130 || o == 116 || (o == 0 && (j == 32 || j == 33 || j == 34 || j == 35))
theorem pkn_mo {s t : ZSt} (h : zE pkn s t) : zE pMo s t := h.mono (fun o j e => by simp [pMo, pkn] at *; omega)
theorem m_knot {n : Nat} {s : ZSt} {a : ZA} (x : Int32) (hn : 5000 < n) (h : MA s a) : zT (f_M_knot n x s) (mP (sKnot x a).1 (sKnot x a).2 s) := by
  have hnb := h.1.2.2.2.1
  generalize hr : sKnot x a = r
  unfold sKnot at hr
  unfold f_M_knot
  refine zT.ln (fun s1 hs1 => ?_)
  obtain ⟨hz, hE0, h00⟩ := mz h hs1
  clear hs1
  rw [inb_isTab]
  refine zT.ite (fun c => ?_) (fun c => ?_)
  · rw [if_pos c] at hr
    obtain ⟨tb, ht, rfl⟩ := (inb_iff (by omega)).mp c
    rw [nI_clamp (by omega)] at hr
    subst hr
    refine zT.cnt 12 (fun k x => k ≤ a.2.1.1 ∧ x.1 = nI k ∧ zE pkn s1 x.2 ∧ MA x.2 a ∧ ∀ u, u < k → gi x.2 130 u = nI (gK a tb u)) (by omega) ⟨Nat.zero_le _, rfl, zE.refl _ _, hz, fun u hu => absurd hu (Nat.not_lt_zero _)⟩ ?_
    rintro j k ⟨_, t⟩ hk12 ⟨hkn, rfl, hE, hM, f1⟩ hj
    dsimp only at *
    rw [hM.2.1.1.1]
    refine zT.ite (fun c1 => ?_) (fun c1 => ?_)
    · rw [nI_leI (by omega) (by omega)] at c1
      have e : k = a.2.1.1 := by omega
      subst e
      refine zT.bnT (m_tellsRing (fr := 1) (g := gK a tb) (by omega) hnb hM (fun u hu => ⟨f1 u hu, gK_lt hu⟩) (by omega) (by omega) (fun i l _ h1 h2 => by omega)) ?_
      rintro ⟨_, v⟩ ⟨rfl, hE2, hM2⟩
      exact zT.ret ⟨rfl, hE0.trans ((pkn_mo hE).trans hE2), hM2⟩
    · rw [nI_leI (by omega) (by omega)] at c1
      refine zT.bnT (m_looks hn hM (show k < a.2.1.1 by omega) ht) ?_
      rintro ⟨_, u⟩ ⟨rfl, hE2, hM2, g1, _⟩
      dsimp only at *
      rw [shI_n (by omega), g1]
      refine zT.ln (fun y hy => ?_)
      have hy : y = nI (gK a tb k) := by
        rw [hy]
        unfold gK
        by_cases q : (lks a k tb (2 ^ a.2.1.1)).2.2.2 = 0
        · rw [if_neg (by rw [decide_eq_false (fun w => w q)]; decide), if_pos q]
        · rw [if_pos (decide_eq_true q), if_neg q]
      subst hy
      refine zT.gu (inb_n (by omega) (by decide)) ?_
      rw [sai_n _ _ _ (by omega)]
      refine zT.ltS ?_
      rw [nI_1]
      have hE3 : zE p130 u (si u 130 k (nI (gK a tb k))) := (zE.refl _ _).wi rfl
      refine zT.ltS (hj (by omega) _ ⟨by omega, rfl, (hE.trans (hE2.mono (fun o j e => by simp [pkn, plk] at *; omega))).trans (hE3.mono (fun o j e => by simp [pkn, p130] at *; omega)), hM2.s130 hE3, fun w hw => ?_⟩)
      dsimp only
      rw [gi_i]
      by_cases q : w = k
      · rw [if_pos ⟨rfl, q⟩, q]
      · rw [if_neg (fun z => q z.2), hE2.i (o := 130) rfl]; exact f1 w (by omega)
  · rw [if_neg c] at hr
    subst hr
    exact zT.ret ⟨rfl, hE0, hz⟩
def pxk9 : Nat → Nat → Bool := fun o _ => o == 243 || o == 244 || (decide (440 ≤ o) && decide (o < 475)) || o == 203 || o == 217
theorem pxk9_xo {s t : ZSt} (h : zE pxk9 s t) : zE pXo s t := h.mono (fun o j e => by simp [pXo, pxk9] at *; omega)
theorem x_knot {n T : Nat} {s : ZSt} {a : ZA} (x : Int32) (hn : 5000 < n) (h : XX s T a) : zT (f_X_knot n x s) (xP (sKnot x a).1 T (sKnot x a).2 s) := by
  have hnb := h.1.2.2.2.1
  generalize hr : sKnot x a = r
  unfold sKnot at hr
  unfold f_X_knot
  rw [inb_xTab]
  refine zT.ite (fun c => ?_) (fun c => ?_)
  · rw [if_pos c] at hr
    obtain ⟨tb, ht, rfl⟩ := (inb_iff (by omega)).mp c
    rw [nI_clamp (by omega)] at hr
    subst hr
    refine zT.cnt 12 (fun k x => k ≤ a.2.1.1 ∧ x.1 = nI k ∧ zE pxk9 s x.2 ∧ XX x.2 T a ∧ ∀ u, u < k → gi x.2 217 u = nI (gK a tb u)) (by omega) ⟨Nat.zero_le _, rfl, zE.refl _ _, h, fun u hu => absurd hu (Nat.not_lt_zero _)⟩ ?_
    rintro j k ⟨_, t⟩ hk12 ⟨hkn, rfl, hE, hM, f1⟩ hj
    dsimp only at *
    obtain ⟨hA, ⟨st, hst, hB⟩, hO⟩ := id hM
    rw [hB.1.1.1]
    refine zT.ite (fun c1 => ?_) (fun c1 => ?_)
    · rw [nI_leI (by omega) (by omega)] at c1
      have e : k = a.2.1.1 := by omega
      subst e
      refine zT.bnT (x_tellRing (g := gK a tb) (by omega) hnb hM (fun u hu => ⟨f1 u hu, gK_lt hu⟩)) ?_
      rintro ⟨_, v⟩ ⟨rfl, hE2, hM2⟩
      exact zT.ret ⟨rfl, (pxk9_xo hE).trans hE2, hM2⟩
    · rw [nI_leI (by omega) (by omega)] at c1
      refine zT.bnT (x_look hn hA hst hB hO (show k < a.2.1.1 by omega) ht) ?_
      rintro u ⟨hE2, hM2, hS⟩
      have hlb := (lks_b a k tb hnb (2 ^ a.2.1.1) (pw_12 hnb)).2.2.2
      have h12 := pw_12 hnb
      rw [shI_n (by omega), hS.1, hS.2.2.2.2]
      refine zT.ln (fun y hy => ?_)
      have hy : y = nI (gK a tb k) := by
        rw [hy]
        unfold gK
        by_cases q : (lks a k tb (2 ^ a.2.1.1)).2.2.2 = 0
        · rw [if_pos (by rw [q]; rfl), if_pos q]
        · rw [if_neg (show ¬ nI (lks a k tb (2 ^ a.2.1.1)).2.2.2 = 0 from fun w => q ((nI_eq (b := 0) (by omega) (by decide)).mp w)), if_neg q]
      subst hy
      refine zT.gu (inb_n (by omega) (by decide)) ?_
      rw [sai_n _ _ _ (by omega)]
      refine zT.ltS ?_
      rw [nI_1]
      have hE3 : zE p217 u (si u 217 k (nI (gK a tb k))) := (zE.refl _ _).wi rfl
      refine zT.ltS (hj (by omega) _ ⟨by omega, rfl, (hE.trans (hE2.mono (fun o j e => by simp [pxk9, pxv] at *; omega))).trans (hE3.mono (fun o j e => by simp [pxk9, p217] at *; omega)), hM2.s218 (p217_2 hE3), fun w hw => ?_⟩)
      dsimp only
      rw [gi_i]
      by_cases q : w = k
      · rw [if_pos ⟨rfl, q⟩, q]
      · rw [if_neg (fun z => q z.2), hE2.i (o := 217) rfl]; exact f1 w (by omega)
  · rw [if_neg c] at hr
    subst hr
    exact zT.ret ⟨rfl, zE.refl _ _, h⟩
end Z58
