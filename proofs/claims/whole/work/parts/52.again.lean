-- again in the reference
section Z52
def bck (R : ZRd) (S : ZS) (m : Nat) : ZS := (S.1, S.2.1, fun r => if r < m then S.2.2.1 r else 0, fun r => if r < m then S.2.2.2.1 r else R.2.1 r, S.2.2.2.2)
def sAgain (x : Int32) (a : ZA) : Bool × ZA := if inb x 3 = true then (match a.2.2.2.2 x.toNatClampNeg with | none => (false, a) | some (S, m) => (true, putS a (bck a.2.2.1 S m))) else (false, a)
theorem okA_bck {a : ZA} (h : okA a) {i m : Nat} {S : ZS} (hi : i < 3) (hK : a.2.2.2.2 i = some (S, m)) : okA (putS a (bck a.2.2.1 S m)) := by
  obtain ⟨h1, h2, h3, h4, h5, h6, h7, h8, h12⟩ := h
  obtain ⟨⟨k1, k2, k3, k4⟩, k5⟩ := h12 i S m hi hK
  have hp : 0 < 2 ^ a.2.1.1 := Nat.pos_of_ne_zero (by simp)
  refine ⟨h1, h2, h3, h4, h5, h6, h7, ⟨k1, k2, fun r hr => ?_, k4⟩, h12⟩
  show (if r < m then S.2.2.1 r else 0) < 2 ^ a.2.1.1 ∧ (if r < m then S.2.2.2.1 r else a.2.2.1.2.1 r) < 3
  by_cases q : r < m
  · rw [if_pos q, if_pos q]; exact k3 r q
  · rw [if_neg q, if_neg q]; exact ⟨hp, (h7 r hr).1⟩
def pag : Nat → Nat → Bool := fun o j => o == 108 || o == 105 || o == 113 || o == 110 || o == 128 || (o == 0 && (j == 27 || j == 29))
set_option maxHeartbeats 2000000 in
theorem m_again {n : Nat} {s : ZSt} {a : ZA} (x : Int32) (hn : 100 < n) (h : MA s a) : zT (f_M_again n x s) (mP (sAgain x a).1 (sAgain x a).2 s) := by
  have hnb := h.1.2.2.2.1
  have hnr := h.1.2.2.2.2.2.1
  generalize hr : sAgain x a = r
  unfold sAgain at hr
  unfold f_M_again
  refine zT.ln (fun s1 hs1 => ?_)
  obtain ⟨hz, hE0, h00⟩ := mz h hs1
  clear hs1
  rw [in02]
  refine zT.ite (fun c => ?_) (fun c => ?_)
  · rw [if_pos c] at hr
    obtain ⟨i, hi, rfl⟩ := (inb_iff (by omega)).mp c
    rw [nI_clamp (by omega)] at hr
    refine zT.gu c ?_
    rw [ai_n _ _ (by omega)]
    obtain ⟨hA, hC, h2, h3, h4, h5, h6, h7⟩ := id hz
    have hKi := h7 i hi
    cases hK : a.2.2.2.2 i with
    | none =>
      rw [hK] at hr hKi
      have hKi : gi s1 151 i = 0 := hKi
      subst hr
      rw [hKi]
      exact zT.i00 (zT.ret ⟨rfl, hE0, hz⟩)
    | some w =>
      obtain ⟨S, m⟩ := w
      rw [hK] at hr hKi
      obtain ⟨q0, q1, q2, q3, q4, q5, q6⟩ := hKi
      obtain ⟨⟨kk1, kk2, kk3, kk4⟩, kk5⟩ := hA.2.2.2.2.2.2.2.2 i S m hi hK
      have hr : (true, putS a (bck a.2.2.1 S m)) = r := hr
      rw [q0]
      refine zT.i10 ?_
      rw [show (91 : Int32) = nI 91 from rfl, nI_mulL]
      refine zT.ltS ?_
      -- what is kept, at any later state
      have hEk : ∀ {u}, zE pag s1 u → gi u 0 9 = nI a.2.2.1.1 ∧ (∀ j, gi u 152 j = gi s1 152 j) ∧ ∀ r, gi u 111 r = gi s1 111 r := fun hE => ⟨(hE.i rfl).trans hC.1.2.2.1, fun j => hE.i rfl, fun j => hE.i rfl⟩
      refine zT.cnt 3 (fun k x => x.1 = nI k ∧ zE pag s1 x.2 ∧ ∀ t, t < k → gi x.2 108 t = nI (S.1 t)) (by omega) ⟨rfl, zE.refl _ _, fun t ht => absurd ht (Nat.not_lt_zero _)⟩ ?_
      rintro j k ⟨_, u⟩ hk ⟨rfl, hE, f1⟩ hj
      dsimp only at *
      obtain ⟨g1, g2, g3⟩ := hEk hE
      refine zT.ite (fun c1 => ?_) (fun c1 => ?_)
      · rw [show (3 : Int32) = nI 3 from rfl, nI_leI (by omega) (by omega)] at c1
        have e : k = 3 := by omega
        subst e
        clear hj
        rw [show (3 : Int32) = nI 3 from rfl, nI_add]
        refine zT.ltS ?_
        refine zT.cnt 12 (fun k x => x.1 = nI k ∧ zE pag s1 x.2 ∧ (∀ t, t < 3 → gi x.2 108 t = nI (S.1 t)) ∧ ∀ b, b < k → gi x.2 105 b = S.2.1 b) (by omega) ⟨rfl, hE, f1, fun t ht => absurd ht (Nat.not_lt_zero _)⟩ ?_
        rintro j k ⟨_, u⟩ hk ⟨rfl, hE, f1, f2⟩ hj
        dsimp only at *
        obtain ⟨g1, g2, g3⟩ := hEk hE
        refine zT.ite (fun c1 => ?_) (fun c1 => ?_)
        · rw [show (12 : Int32) = nI 12 from rfl, nI_leI (by omega) (by omega)] at c1
          have e : k = 12 := by omega
          subst e
          clear hj
          rw [show (12 : Int32) = nI 12 from rfl, nI_add]
          refine zT.ltS ?_
          refine zT.cnt 6 (fun k x => k ≤ a.2.2.1.1 ∧ x.1 = nI k ∧ zE pag s1 x.2 ∧ (∀ t, t < 3 → gi x.2 108 t = nI (S.1 t)) ∧ (∀ b, b < 12 → gi x.2 105 b = S.2.1 b) ∧ ∀ r, r < k → gi x.2 113 r = nI (if r < m then S.2.2.1 r else 0) ∧ gi x.2 110 r = nI (if r < m then S.2.2.2.1 r else a.2.2.1.2.1 r)) (by omega) ⟨Nat.zero_le _, rfl, hE, f1, f2, fun t ht => absurd ht (Nat.not_lt_zero _)⟩ ?_
          rintro j k ⟨_, u⟩ hk ⟨hkr, rfl, hE, f1, f2, f3⟩ hj
          dsimp only at *
          obtain ⟨g1, g2, g3⟩ := hEk hE
          rw [g1]
          refine zT.ite (fun c1 => ?_) (fun c1 => ?_)
          · rw [nI_leI (by omega) (by omega)] at c1
            have e : k = a.2.2.1.1 := by omega
            subst e
            clear hj
            rw [nI_add]
            refine zT.ltS (zT.gu (inb_n (by omega) (by decide)) ?_)
            rw [nI_1, ai_n _ _ (by omega), g2, show 91 * i + 3 + 12 + 12 = 91 * i + 27 by omega, q4]
            refine zT.ltS (zT.gu (inb_n (by omega) (by decide)) ?_)
            rw [ai_n _ _ (by omega), show gi (si u 0 29 S.2.2.2.2.1) 152 (91 * i + 27 + 1) = gi u 152 (91 * i + 28) from rfl, g2, q5]
            refine zT.ltS ?_
            refine zT.cnt 60 (fun k x => k ≤ S.2.2.2.2.2.length ∧ x.1 = nI k ∧ zE pag s1 x.2 ∧ (∀ t, t < 3 → gi x.2 108 t = nI (S.1 t)) ∧ (∀ b, b < 12 → gi x.2 105 b = S.2.1 b) ∧ (∀ r, r < a.2.2.1.1 → gi x.2 113 r = nI (if r < m then S.2.2.1 r else 0) ∧ gi x.2 110 r = nI (if r < m then S.2.2.2.1 r else a.2.2.1.2.1 r)) ∧ gi x.2 0 29 = S.2.2.2.2.1 ∧ gi x.2 0 27 = nI S.2.2.2.2.2.length ∧ ∀ j, j < k → gi x.2 128 j = lF S.2.2.2.2.2 j) (by omega) ⟨Nat.zero_le _, rfl, (hE.wi rfl).wi rfl, f1, f2, f3, rfl, rfl, fun t ht => absurd ht (Nat.not_lt_zero _)⟩ ?_
            rintro j k ⟨_, u⟩ hk ⟨hkl, rfl, hE, f1, f2, f3, f4, f5, f6⟩ hj
            dsimp only at *
            obtain ⟨g1, g2, g3⟩ := hEk hE
            rw [f5]
            refine zT.ite (fun c1 => ?_) (fun c1 => ?_)
            · rw [nI_leI (by omega) (by omega)] at c1
              have e : k = S.2.2.2.2.2.length := by omega
              subst e
              subst hr
              have hok := okA_bck hA hi hK
              refine zT.ret ⟨rfl, hE0.trans (hE.mono (fun o j e => by simp [pMo, pag] at *; omega)), hok, ?_, h2.fr hE ⟨rfl, fun _ => rfl⟩, MRl.fr h3 hA.2.1 hE ⟨rfl, fun _ _ => rfl⟩, h4.fr hE ⟨rfl, fun _ => rfl⟩, fun r hr => ⟨(f3 r hr).2, (hE.i rfl).trans (h5 r hr).2.1, (hE.i rfl).trans (h5 r hr).2.2⟩, ⟨f4, f5, fun j hj => by rw [Nat.zero_add]; exact f6 j hj⟩, MKs.fr h7 hE (fun _ => ⟨rfl, rfl⟩)⟩
              obtain ⟨⟨a1, a2, a3, a4, a5, a6⟩, b1, b2, b3, b4, b5⟩ := hC
              have hp12 := pw_12 hnb
              refine ⟨⟨(hE.i rfl).trans a1, a2, g1, a4, fun r hr => ⟨(f3 r hr).1, ?_⟩, fun k hk => ?_⟩, fun k hk => (hE.i rfl).trans (b1 k hk), f2, fun k hk => ⟨(hE.i rfl).trans (b3 k hk).1, (b3 k hk).2⟩, f1, kk1⟩
              · have := (hok.2.2.2.2.2.2.2.1.2.2.1 r hr).1
                exact Nat.lt_of_lt_of_le this hp12
              · obtain ⟨w1, w2, w3, w4, w5, w6, w7⟩ := a6 k hk
                exact ⟨w1.on (fun _ => hE.i rfl) (fun _ => hE.i rfl), w2.on (fun _ => hE.i rfl) (fun _ => hE.i rfl), w3, w4, (hE.i rfl).trans w5, w6, rfl⟩
            · rw [nI_leI (by omega) (by omega)] at c1
              rw [show (2 : Int32) = nI 2 from rfl, nI_add, nI_add]
              refine zT.gu (inb_n (by omega) (by decide)) (zT.gu (inb_n (by omega) (by decide)) ?_)
              rw [ai_n _ _ (by omega), sai_n _ _ _ (by omega), g2, show 91 * i + 27 + 2 + k = 91 * i + 29 + k by omega, q6 k (by omega)]
              refine zT.ltS (zT.ltS ?_)
              rw [nI_1]
              refine hj (by omega) _ ⟨by omega, rfl, hE.wi rfl, f1, f2, f3, f4, f5, fun t ht => ?_⟩
              dsimp only
              rw [gi_i]
              by_cases e : t = k
              · rw [if_pos ⟨rfl, e⟩, e]
              · rw [if_neg (fun w => e w.2)]; exact f6 t (by omega)
          · rw [nI_leI (by omega) (by omega)] at c1
            rw [nI_add]
            refine zT.gu (inb_n (by omega) (by decide)) (zT.gu (inb_n (by omega) (by decide)) ?_)
            obtain ⟨r1, r2⟩ := q3 k (by omega)
            rw [ai_n _ _ (by omega), sai_n _ _ _ (by omega), g2, show 91 * i + 3 + 12 + k = 91 * i + 15 + k by omega, r1]
            refine zT.ltS ?_
            rw [show (6 : Int32) = nI 6 from rfl, nI_add, nI_add]
            refine zT.gu (inb_n (by omega) (by decide)) ?_
            rw [ai_n _ _ (by omega), show 91 * i + 3 + 12 + 6 + k = 91 * i + 21 + k by omega]
            rw [show gi (si u 113 k (if k < m then nI (S.2.2.1 k) else 0)) 152 (91 * i + 21 + k) = gi u 152 (91 * i + 21 + k) from rfl, g2, r2]
            refine zT.jnQ (fun w => w = nI (if k < m then S.2.2.2.1 k else a.2.2.1.2.1 k)) ?_ ?_
            · intro w hw
              rw [sai_n _ _ _ (by omega)]
              refine zT.ltS (zT.ltS ?_)
              rw [nI_1]
              refine hj (by omega) _ ⟨by omega, rfl, (hE.wi rfl).wi rfl, f1, f2, fun r hr => ?_⟩
              dsimp only
              refine ⟨?_, ?_⟩
              · rw [gi_i, if_neg (by omega), gi_i]
                by_cases e : r = k
                · rw [if_pos (show 113 = 113 ∧ r = k from ⟨rfl, e⟩), e]
                  by_cases q : k < m
                  · rw [if_pos q, if_pos q]
                  · rw [if_neg q, if_neg q]; rfl
                · rw [if_neg (show ¬ (113 = 113 ∧ r = k) from fun q => e q.2)]
                  exact (f3 r (by omega)).1
              · rw [gi_i]
                by_cases e : r = k
                · rw [if_pos (show 110 = 110 ∧ r = k from ⟨rfl, e⟩), hw, e]
                · rw [if_neg (show ¬ (110 = 110 ∧ r = k) from fun q => e q.2), gi_i, if_neg (by omega)]
                  exact (f3 r (by omega)).2
            · intro j36 hj36
              by_cases q : k < m
              · rw [if_pos q] at hj36
                have hb := (kk3 k q).2
                simp only [if_pos q]
                exact zT.it (nI_pos' (by omega)) (hj36 _ rfl)
              · rw [if_neg q] at hj36
                simp only [if_neg q]
                refine zT.ie (by decide) (hj36 _ ?_)
                rw [ai_n _ _ (by omega), gi_i, if_neg (by omega), g3]
                exact (h5 k (by omega)).2.1
        · rw [show (12 : Int32) = nI 12 from rfl, nI_leI (by omega) (by omega)] at c1
          rw [nI_add]
          refine zT.gu (inb_n (by omega) (by decide)) (zT.gu (inb_n (by omega) (by decide)) ?_)
          rw [ai_n _ _ (by omega), sai_n _ _ _ (by omega), g2, q2 k (by omega)]
          refine zT.ltS (zT.ltS ?_)
          rw [nI_1]
          refine hj (by omega) _ ⟨rfl, hE.wi rfl, f1, fun t ht => ?_⟩
          dsimp only
          rw [gi_i]
          by_cases e : t = k
          · rw [if_pos ⟨rfl, e⟩, e]
          · rw [if_neg (fun q => e q.2)]; exact f2 t (by omega)
      · rw [show (3 : Int32) = nI 3 from rfl, nI_leI (by omega) (by omega)] at c1
        rw [nI_add]
        refine zT.gu (inb_n (by omega) (by decide)) (zT.gu (inb_n (by omega) (by decide)) ?_)
        rw [ai_n _ _ (by omega), sai_n _ _ _ (by omega), g2, q1 k (by omega)]
        refine zT.ltS (zT.ltS ?_)
        rw [nI_1]
        refine hj (by omega) _ ⟨rfl, hE.wi rfl, fun t ht => ?_⟩
        dsimp only
        rw [gi_i]
        by_cases e : t = k
        · rw [if_pos ⟨rfl, e⟩, e]
        · rw [if_neg (fun q => e q.2)]; exact f1 t (by omega)
  · rw [if_neg c] at hr
    subst hr
    exact zT.ret ⟨rfl, hE0, hz⟩
end Z52
