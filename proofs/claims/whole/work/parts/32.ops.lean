-- set, sheet, open, about, value, act, why
section Z32
theorem inb_iff {x : Int32} {n : Nat} (hn : n < 2 ^ 31) : inb x n = true ↔ ∃ k, k < n ∧ x = nI k := by
  constructor
  · intro h
    exact vp_in_of (inb_vp h) hn
  · rintro ⟨k, hk, rfl⟩
    exact inb_n hk hn
theorem inb_isBook {s : ZSt} {nb : Nat} (h3 : gi s 0 3 = nI nb) (hnb : nb ≤ 12) (x : Int32) : f_M_isBook x s = inb x nb := by
  rw [Bool.eq_iff_iff, m_isBook h3 hnb, inb_iff (by omega)]
theorem inb_isReader {s : ZSt} {nr : Nat} (h9 : gi s 0 9 = nI nr) (hnr : nr ≤ 6) (x : Int32) : f_M_isReader x s = inb x nr := by
  rw [Bool.eq_iff_iff, m_isReader h9 hnr, inb_iff (by omega)]
theorem inb_isTab (x : Int32) : f_M_isTable x = inb x 3 := by rw [Bool.eq_iff_iff, isTab, inb_iff (by omega)]
theorem inb_xTab (x : Int32) : f_X_isTable x = inb x 3 := by rw [tab_eq, inb_isTab]
theorem inb_has {s : ZSt} {nb : Nat} (h3 : gi s 201 2 = nI nb) (hnb : nb ≤ 12) (x : Int32) : f_T_has x s = inb x nb := by
  rw [Bool.eq_iff_iff, t_has h3 hnb, inb_iff (by omega)]
theorem inb_xReader {s : ZSt} {nr : Nat} (h7 : gi s 1 7 = nI nr) (hnr : nr ≤ 6) (x : Int32) : f_X_isReader x s = inb x nr := by
  rw [Bool.eq_iff_iff, inb_iff (by omega)]
  unfold f_X_isReader
  rw [h7]
  rcases nI_cases x nr (by omega) with ⟨k, hk, rfl⟩ | h | h
  · rw [if_neg (nI_pos (by omega)), if_neg (nI_ge hk (by omega))]
    exact ⟨fun _ => ⟨k, hk, rfl⟩, fun _ => rfl⟩
  · rw [if_pos h]
    exact ⟨fun e => (by cases e), fun ⟨k, hk, e⟩ => by rw [e] at h; exact absurd h (nI_pos (by omega))⟩
  · have h0 : ¬ x < 0 := fun q => absurd (Int32.lt_of_le_of_lt h q) (nI_pos (by omega))
    rw [if_neg h0, if_pos h]
    exact ⟨fun e => (by cases e), fun ⟨k, hk, e⟩ => by rw [e] at h; exact absurd h (nI_ge hk (by omega))⟩
theorem in099 (v : Int32) : f_M_in v.toInt64 (0 : Int64) (99 : Int64) = decide (0 ≤ v ∧ v ≤ 99) := in_i v 0 99
theorem in16 (v : Int32) : f_M_in v.toInt64 (1 : Int64) (6 : Int64) = decide (1 ≤ v ∧ v ≤ 6) := in_i v 1 6
def sSet (w i v : Int32) (a : ZA) : Int32 × ZA :=
  if w = 0 then (if inb i a.2.1.1 = true ∧ 0 ≤ v ∧ v ≤ 99 then (a.2.1.2.2.2.2.1 i.toNatClampNeg, putB a (ups a.2.1.2.2.2.2.1 i.toNatClampNeg v) a.2.1.2.2.2.2.2 a.2.2.2.1.1 a.2.2.2.1.2.1) else (-1, a))
  else if w = 1 ∧ inb i 3 = true ∧ 1 ≤ v ∧ v ≤ 6 then (nI (a.2.1.2.2.2.2.2 i.toNatClampNeg), putB a a.2.1.2.2.2.2.1 (ups a.2.1.2.2.2.2.2 i.toNatClampNeg v.toNatClampNeg) a.2.2.2.1.1 a.2.2.2.1.2.1)
  else (-1, a)
theorem zT.i00 {α : Type} {t1 t2 : Option α} {P : α → Prop} (h : zT t1 P) : zT (if (0 : Int32) = 0 then t1 else t2) P := h
theorem zT.i10 {α : Type} {t1 t2 : Option α} {P : α → Prop} (h : zT t2 P) : zT (if (1 : Int32) = 0 then t1 else t2) P := zT.ie (c := (1 : Int32) = 0) (by decide) h
theorem v16 {v : Int32} (h1 : 1 ≤ v) (h2 : v ≤ 6) : ∃ m, 1 ≤ m ∧ m ≤ 6 ∧ v = nI m := by
  rcases nI_cases v 7 (by decide) with ⟨k, hk, rfl⟩ | q | q
  · rw [show (1 : Int32) = nI 1 from rfl, nI_leI (by omega) (by omega)] at h1
    exact ⟨k, h1, by omega, rfl⟩
  · exact absurd (Int32.lt_of_le_of_lt h1 q) (by decide)
  · exact absurd (Int32.le_trans q h2) (by decide)
theorem ups_i {α : Type} (f : Nat → α) (t : Nat) (m : α) (k : Nat) : ups f t m k = if k = t then m else f k := rfl
theorem okA_lim {a : ZA} (h : okA a) (lim : Nat → Int32) : okA (putB a lim a.2.1.2.2.2.2.2 a.2.2.2.1.1 a.2.2.2.1.2.1) := okA_put h h.2.2.2.2.1 h.2.2.2.2.2.2.2.1.1 h.2.2.2.2.2.2.2.1.2.1
theorem okA_rm {a : ZA} (h : okA a) (t m : Nat) (h1 : 1 ≤ m) (h2 : m ≤ 6) : okA (putB a a.2.1.2.2.2.2.1 (ups a.2.1.2.2.2.2.2 t m) a.2.2.2.1.1 a.2.2.2.1.2.1) := okA_put h (fun k hk => by
  rw [ups_i]
  split
  · exact ⟨h1, h2⟩
  · exact h.2.2.2.2.1 k hk) h.2.2.2.2.2.2.2.1.1 h.2.2.2.2.2.2.2.1.2.1
def pml : Nat → Nat → Bool := fun o j => o == 104 || o == 107
theorem MA.lim {s t : ZSt} {a : ZA} (h : MA s a) (hE : zE pml s t) (lim : Nat → Int32) (rm : Nat → Nat) (hA' : okA (putB a lim rm a.2.2.2.1.1 a.2.2.2.1.2.1)) (h1 : ∀ b, b < a.2.1.1 → gi t 104 b = lim b) (h2 : ∀ u, u < 3 → gi t 107 u = nI (rm u)) : MA t (putB a lim rm a.2.2.2.1.1 a.2.2.2.1.2.1) := by
  refine h.put hE (fun o j e1 e2 => by simp [qM, pml] at *; omega) hA' ?_
  obtain ⟨q1, q2, q3, q4, q5, q6⟩ := h.2.1
  exact ⟨q1.fr hE ⟨rfl, rfl, fun _ => rfl, fun _ => rfl, fun _ => rfl, fun _ => rfl⟩, h1, fun b hb => (hE.i (o := 105) rfl).trans (q3 b hb), fun u hu => ⟨h2 u hu, (hA'.2.2.2.2.1 u hu).2⟩, fun u hu => (hE.i (o := 108) rfl).trans (q5 u hu), q6⟩
theorem pml_mo {s t : ZSt} (h : zE pml s t) : zE pMo s t := h.mono (fun o j e => by simp [pMo, pml] at *; omega)
theorem m_set {s : ZSt} {a : ZA} (w i v : Int32) (h : MA s a) : zT (f_M_set w i v s) (mP (sSet w i v a).1 (sSet w i v a).2 s) := by
  have hz := h.z
  have hnb := h.1.2.2.2.1
  unfold f_M_set
  refine zT.ln (fun s1 hs1 => ?_)
  rw [← hs1] at hz
  have hE0 : zE pMo s s1 := by rw [hs1]; exact zz s
  rw [inb_isBook hz.2.1.1.1 hnb, in099, inb_isTab, in16]
  refine zT.ln (fun x2 hx => ?_)
  generalize hr : sSet w i v a = r
  unfold sSet at hr
  by_cases c1 : w = 0
  · rw [if_pos c1] at hx hr
    by_cases c2 : inb i a.2.1.1 = true ∧ 0 ≤ v ∧ v ≤ 99
    · rw [if_pos c2.1, if_pos (decide_eq_true c2.2)] at hx
      subst hx
      rw [if_pos c2] at hr
      subst hr
      obtain ⟨b, hb, rfl⟩ := (inb_iff (by omega)).mp c2.1
      refine zT.i10 (zT.it c1 (zT.gu (inb_n (by omega) (by decide)) ?_))
      rw [nI_clamp (by omega), ai_n _ _ (by omega), sai_n _ _ _ (by omega), hz.2.1.2.1 b hb]
      have hE : zE pml s1 (si s1 104 b v) := (zE.refl _ _).wi rfl
      refine zT.ltS (zT.ltS (zT.ret ⟨rfl, hE0.trans (pml_mo hE), hz.lim hE _ _ (okA_lim hz.1 _) (fun k hk => ?_) (fun u hu => ?_)⟩))
      · rw [gi_i, ups_i]
        by_cases e : k = b
        · rw [if_pos ⟨rfl, e⟩, if_pos e]
        · rw [if_neg (fun q => e q.2), if_neg e]; exact hz.2.1.2.1 k hk
      · rw [gi_i, if_neg (by omega)]
        exact (hz.2.1.2.2.2.1 u hu).1
    · have hx : x2 = 0 := by
        rw [hx]
        by_cases q1 : inb i a.2.1.1 = true
        · rw [if_pos q1, if_neg]
          intro q
          exact c2 ⟨q1, of_decide_eq_true q⟩
        · rw [if_neg q1]
      subst hx
      rw [if_neg c2] at hr
      subst hr
      exact zT.i00 (zT.ret ⟨rfl, hE0, hz⟩)
  · rw [if_neg c1] at hx hr
    by_cases c2 : w = 1 ∧ inb i 3 = true ∧ 1 ≤ v ∧ v ≤ 6
    · rw [if_pos c2.1, if_pos c2.2.1, if_pos (decide_eq_true c2.2.2)] at hx
      subst hx
      rw [if_pos c2] at hr
      subst hr
      obtain ⟨b, hb, rfl⟩ := (inb_iff (by omega)).mp c2.2.1
      obtain ⟨m, hm1, hm2, rfl⟩ := v16 c2.2.2.1 c2.2.2.2
      refine zT.i10 (zT.ie c1 (zT.gu (inb_n (by omega) (by decide)) ?_))
      rw [nI_clamp (by omega), nI_clamp (by omega), ai_n _ _ (by omega), sai_n _ _ _ (by omega), (hz.2.1.2.2.2.1 b hb).1]
      have hE : zE pml s1 (si s1 107 b (nI m)) := (zE.refl _ _).wi rfl
      refine zT.ltS (zT.ltS (zT.ret ⟨rfl, hE0.trans (pml_mo hE), hz.lim hE _ _ (okA_rm hz.1 _ _ hm1 hm2) (fun k hk => ?_) (fun u hu => ?_)⟩))
      · rw [gi_i, if_neg (by omega)]
        exact hz.2.1.2.1 k hk
      · rw [gi_i, ups_i]
        by_cases e : u = b
        · rw [if_pos ⟨rfl, e⟩, if_pos e]
        · rw [if_neg (fun q => e q.2), if_neg e]
          exact (hz.2.1.2.2.2.1 u hu).1
    · have hx : x2 = 0 := by
        rw [hx]
        by_cases q0 : w = 1
        · rw [if_pos q0]
          by_cases q1 : inb i 3 = true
          · rw [if_pos q1, if_neg]
            intro q
            exact c2 ⟨q0, q1, of_decide_eq_true q⟩
          · rw [if_neg q1]
        · rw [if_neg q0]
      subst hx
      rw [if_neg c2] at hr
      subst hr
      exact zT.i00 (zT.ret ⟨rfl, hE0, hz⟩)
def pxl : Nat → Nat → Bool := fun o j => o == 241 || (decide (300 ≤ o) && decide (o < 312) && j == 3)
theorem pxl_xo {s t : ZSt} (h : zE pxl s t) : zE pXo s t := h.mono (fun o j e => by simp [pXo, pxl] at *; omega)
theorem XX.lim {s t : ZSt} {T : Nat} {a : ZA} (h : XX s T a) (hE : zE (fun o j => o == 241 || (decide (300 ≤ o) && decide (o < 300 + a.2.1.1) && j == 3)) s t) (lim : Nat → Int32) (rm : Nat → Nat) (hA' : okA (putB a lim rm a.2.2.2.1.1 a.2.2.2.1.2.1)) (h1 : ∀ b, b < a.2.1.1 → gi t (300 + b) 3 = lim b) (h2 : ∀ u, u < 3 → gi t 241 u = nI (rm u)) : XX t T (putB a lim rm a.2.2.2.1.1 a.2.2.2.1.2.1) := by
  obtain ⟨hA, ⟨st, hst, hB⟩, hO⟩ := h
  refine XX.put hA hst hO hE (fun o j e1 e2 => by simp [qX] at *; omega) hA' ?_
  obtain ⟨⟨⟨r1, r2, r3⟩, rC, rr⟩, q2, q3, q4, q5⟩ := hB
  refine ⟨⟨⟨(hE.i (by simp)).trans r1, r2, fun b hb => ?_⟩, rC.on (hE.i (by simp)) (fun i => hE.i (by simp <;> omega)) (fun i => hE.i (by simp <;> omega)), fun u hu => ⟨h2 u hu, (hA'.2.2.2.2.1 u hu).2⟩⟩, h1, fun b hb => (hE.i (by simp <;> omega)).trans (q3 b hb), (hE.l (by simp)).trans q4, q5⟩
  obtain ⟨c1, c2, c3, c4, c5, c6, c7, c8⟩ := r3 b hb
  exact ⟨c1.on (hE.i (by simp <;> omega)) (fun j => hE.i (by simp <;> omega)), c2.on (hE.i (by simp <;> omega)) (fun j => hE.i (by simp <;> omega)), c3, c4, (hE.i (by simp <;> omega)).trans c5, c6, (hE.i (by simp <;> omega)).trans c7, c8⟩
theorem x_set {T : Nat} {s : ZSt} {a : ZA} (w i v : Int32) (h : XX s T a) : zT (f_X_set w i v s) (xP (sSet w i v a).1 T (sSet w i v a).2 s) := by
  have hnb := h.1.2.2.2.1
  obtain ⟨hA, ⟨st, hst, hB⟩, hO⟩ := id h
  have h3 := hB.1.1.1
  generalize hr : sSet w i v a = r
  unfold sSet at hr
  unfold f_X_set
  rw [inb_has h3 hnb, inb_xTab]
  refine zT.jnQ (fun _ => w = 0 → ¬ (inb i a.2.1.1 = true ∧ 0 ≤ v ∧ v ≤ 99)) (fun _ hq => ?_) (fun j9 hj => ?_)
  · by_cases c1 : w = 0
    · rw [if_pos c1, if_neg (hq c1)] at hr
      subst hr
      rw [if_neg (by rw [c1]; decide)]
      exact zT.ret ⟨rfl, zE.refl _ _, h⟩
    · rw [if_neg c1] at hr
      by_cases c2 : w = 1
      · rw [if_pos c2]
        by_cases c3 : inb i 3 = true
        · rw [if_pos c3]
          refine zT.ite (fun c4 => ?_) (fun c4 => ?_)
          · rw [if_neg (fun q => absurd q.2.2.1 (Int32.not_le.mpr c4))] at hr
            subst hr
            exact zT.ret ⟨rfl, zE.refl _ _, h⟩
          · refine zT.ite (fun c5 => ?_) (fun c5 => ?_)
            · rw [if_neg (fun q => absurd q.2.2.2 (Int32.not_le.mpr c5))] at hr
              subst hr
              exact zT.ret ⟨rfl, zE.refl _ _, h⟩
            · rw [if_pos ⟨c2, c3, Int32.not_lt.mp c4, Int32.not_lt.mp c5⟩] at hr
              subst hr
              obtain ⟨b, hb, rfl⟩ := (inb_iff (by omega)).mp c3
              obtain ⟨m, hm1, hm2, rfl⟩ := v16 (Int32.not_lt.mp c4) (Int32.not_lt.mp c5)
              rw [nI_clamp (by omega), nI_clamp (by omega), ai_n _ _ (by omega), sai_n _ _ _ (by omega), (hB.1.2.2 b hb).1]
              refine zT.gu c3 (zT.ltS (zT.ltS (zT.ret ⟨rfl, pxl_xo ((zE.refl _ _).wi rfl), h.lim ((zE.refl _ _).wi rfl) _ _ (okA_rm hA _ _ hm1 hm2) (fun k hk => ?_) (fun u hu => ?_)⟩)))
              · rw [gi_i, if_neg (by omega)]
                exact hB.2.1 k hk
              · rw [gi_i, ups_i]
                by_cases e : u = b
                · rw [if_pos ⟨rfl, e⟩, if_pos e]
                · rw [if_neg (fun q => e q.2), if_neg e]
                  exact (hB.1.2.2 u hu).1
        · rw [if_neg (fun q => c3 q.2.1)] at hr
          subst hr
          rw [if_neg c3]
          exact zT.ret ⟨rfl, zE.refl _ _, h⟩
      · rw [if_neg (fun q => c2 q.1)] at hr
        subst hr
        rw [if_neg c2]
        exact zT.ret ⟨rfl, zE.refl _ _, h⟩
  · refine zT.ite (fun c1 => ?_) (fun c1 => ?_)
    · refine zT.ite (fun c3 => ?_) (fun c3 => ?_)
      · refine zT.ite (fun c4 => ?_) (fun c4 => ?_)
        · exact hj () (fun _ q => absurd q.2.1 (Int32.not_le.mpr c4))
        · refine zT.ite (fun c5 => ?_) (fun c5 => ?_)
          · exact hj () (fun _ q => absurd q.2.2 (Int32.not_le.mpr c5))
          · rw [if_pos c1, if_pos ⟨c3, Int32.not_lt.mp c4, Int32.not_lt.mp c5⟩] at hr
            subst hr
            obtain ⟨b, hb, rfl⟩ := (inb_iff (by omega)).mp c3
            rw [nI_clamp (by omega)]
            rw [show z_ra 240 b = 300 + b from rfl, hB.2.1 b hb]
            refine zT.gu (inb_n (by omega) (by decide)) (zT.ltS (zT.ltS (zT.ret ⟨rfl, pxl_xo ((zE.refl _ _).wi ?_), h.lim ((zE.refl _ _).wi ?_) _ _ (okA_lim hA _) (fun k hk => ?_) (fun u hu => ?_)⟩)))
            · simp [pxl]; omega
            · simp; omega
            · rw [gi_i, ups_i]
              by_cases e : k = b
              · rw [if_pos ⟨by omega, rfl⟩, if_pos e]
              · rw [if_neg (fun q => e (by omega)), if_neg e]; exact hB.2.1 k hk
            · rw [gi_i, if_neg (by omega)]
              exact (hB.1.2.2 u hu).1
      · exact hj () (fun _ q => c3 q.1)
    · exact hj () (fun q => absurd q c1)
end Z32
