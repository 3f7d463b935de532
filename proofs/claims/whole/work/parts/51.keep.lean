-- keep, again in the reference
section Z51
def putK (a : ZA) (K : Nat → Option (ZS × Nat)) : ZA := (a.1, a.2.1, a.2.2.1, a.2.2.2.1, K)
def sKeep (x : Int32) (a : ZA) : Bool × ZA := if inb x 3 = true then (true, putK a (ups a.2.2.2.2 x.toNatClampNeg (some (a.2.2.2.1, a.2.2.1.1)))) else (false, a)
theorem okA_keep {a : ZA} (h : okA a) (i : Nat) : okA (putK a (ups a.2.2.2.2 i (some (a.2.2.2.1, a.2.2.1.1)))) := by
  obtain ⟨h1, h2, h3, h4, h5, h6, h7, h8, h12⟩ := h
  refine ⟨h1, h2, h3, h4, h5, h6, h7, h8, fun i' S m hi' hK => ?_⟩
  have hK : ups a.2.2.2.2 i (some (a.2.2.2.1, a.2.2.1.1)) i' = some (S, m) := hK
  rw [ups_i] at hK
  by_cases e : i' = i
  · rw [if_pos e] at hK
    cases hK
    exact ⟨h8, Nat.le_refl _⟩
  · rw [if_neg e] at hK; exact h12 i' S m hi' hK
theorem MKp.onI {s t : ZSt} {i : Nat} {q : Option (ZS × Nat)} (hl : ∀ S m, q = some (S, m) → S.2.2.2.2.2.length ≤ 60) (h : MKp s i q) (h1 : gi t 151 i = gi s 151 i) (h2 : ∀ j, 91 * i ≤ j → j < 91 * i + 91 → gi t 152 j = gi s 152 j) : MKp t i q := by
  cases q with
  | none => exact h1.trans h
  | some w =>
    obtain ⟨S, m⟩ := w
    have hl := hl S m rfl
    obtain ⟨a, b, c, d, e, f, g⟩ := h
    exact ⟨h1.trans a, fun k hk => (h2 _ (by omega) (by omega)).trans (b k hk), fun k hk => (h2 _ (by omega) (by omega)).trans (c k hk), fun k hk => ⟨(h2 _ (by omega) (by omega)).trans (d k hk).1, (h2 _ (by omega) (by omega)).trans (d k hk).2⟩, (h2 _ (by omega) (by omega)).trans e, (h2 _ (by omega) (by omega)).trans f, fun k hk => (h2 _ (by omega) (by omega)).trans (g k hk)⟩
theorem in02 (x : Int32) : f_M_in x.toInt64 (0 : Int64) (2 : Int64) = inb x 3 := inb_isTab x
def pkp (i : Nat) : Nat → Nat → Bool := fun o j => (o == 151 && j == i) || (o == 152 && decide (91 * i ≤ j) && decide (j < 91 * i + 91))
set_option maxHeartbeats 2000000 in
theorem m_keep {n : Nat} {s : ZSt} {a : ZA} (x : Int32) (hn : 100 < n) (h : MA s a) : zT (f_M_keep n x s) (mP (sKeep x a).1 (sKeep x a).2 s) := by
  have hnb := h.1.2.2.2.1
  have hnr := h.1.2.2.2.2.2.1
  have hlg : a.2.2.2.1.2.2.2.2.2.length ≤ 60 := h.1.2.2.2.2.2.2.2.1.2.2.2
  generalize hr : sKeep x a = r
  unfold sKeep at hr
  unfold f_M_keep
  refine zT.ln (fun s1 hs1 => ?_)
  obtain ⟨hz, hE0, h00⟩ := mz h hs1
  clear hs1
  rw [in02]
  refine zT.ite (fun c => ?_) (fun c => ?_)
  · rw [if_pos c] at hr
    obtain ⟨i, hi, rfl⟩ := (inb_iff (by omega)).mp c
    rw [nI_clamp (by omega)] at hr
    refine zT.gu c ?_
    rw [sai_n _ _ _ (by omega), show (91 : Int32) = nI 91 from rfl, nI_mulL]
    refine zT.ltS (zT.ltS ?_)
    obtain ⟨hA, hC, h2, h3, h4, h5, h6, h7⟩ := hz
    -- the cells, at any later state
    have hEk : ∀ {u}, zE (pkp i) s1 u → gi u 0 3 = nI a.2.1.1 ∧ gi u 0 9 = nI a.2.2.1.1 ∧ (∀ t, t < 3 → gi u 108 t = nI (a.2.2.2.1.1 t)) ∧ (∀ b, b < 12 → gi u 105 b = a.2.2.2.1.2.1 b) ∧ (∀ r, r < a.2.2.1.1 → gi u 113 r = nI (a.2.2.2.1.2.2.1 r) ∧ gi u 110 r = nI (a.2.2.2.1.2.2.2.1 r)) ∧ gi u 0 29 = a.2.2.2.1.2.2.2.2.1 ∧ gi u 0 27 = nI a.2.2.2.1.2.2.2.2.2.length ∧ ∀ k, k < a.2.2.2.1.2.2.2.2.2.length → gi u 128 k = lF a.2.2.2.1.2.2.2.2.2 k := fun hE => by
      refine ⟨(hE.i rfl).trans hC.1.1, (hE.i rfl).trans hC.1.2.2.1, fun t ht => (hE.i rfl).trans (hC.2.2.2.2.1 t ht), fun b hb => (hE.i rfl).trans (hC.2.2.1 b hb), fun r hr => ⟨(hE.i rfl).trans (hC.1.2.2.2.2.1 r hr).1, (hE.i rfl).trans (h5 r hr).1⟩, (hE.i rfl).trans h6.1, (hE.i rfl).trans h6.2.1, fun k hk => ?_⟩
      have := h6.2.2 k hk
      rw [Nat.zero_add] at this
      exact (hE.i rfl).trans this
    have hEs : zE (pkp i) s1 (si s1 151 i (b2i true)) := (zE.refl _ _).wi (by simp [pkp])
    refine zT.cnt 3 (fun k x => x.1 = nI k ∧ zE (pkp i) s1 x.2 ∧ gi x.2 151 i = 1 ∧ ∀ t, t < k → gi x.2 152 (91 * i + t) = nI (a.2.2.2.1.1 t)) (by omega) ⟨rfl, hEs, (by
      show gi (si s1 151 i (b2i true)) 151 i = 1
      rw [gi_i, if_pos ⟨rfl, rfl⟩]; rfl), fun t ht => absurd ht (Nat.not_lt_zero _)⟩ ?_
    rintro j k ⟨_, u⟩ hk ⟨rfl, hE, f0, f1⟩ hj
    dsimp only at *
    refine zT.ite (fun c1 => ?_) (fun c1 => ?_)
    · rw [show (3 : Int32) = nI 3 from rfl, nI_leI (by omega) (by omega)] at c1
      have e : k = 3 := by omega
      subst e
      clear hj
      rw [show (3 : Int32) = nI 3 from rfl, nI_add]
      refine zT.ltS ?_
      refine zT.cnt 12 (fun k x => x.1 = nI k ∧ zE (pkp i) s1 x.2 ∧ gi x.2 151 i = 1 ∧ (∀ t, t < 3 → gi x.2 152 (91 * i + t) = nI (a.2.2.2.1.1 t)) ∧ ∀ b, b < k → gi x.2 152 (91 * i + 3 + b) = a.2.2.2.1.2.1 b) (by omega) ⟨rfl, hE, f0, f1, fun t ht => absurd ht (Nat.not_lt_zero _)⟩ ?_
      rintro j k ⟨_, u⟩ hk ⟨rfl, hE, f0, f1, f2⟩ hj
      dsimp only at *
      obtain ⟨g1, g2, g3, g4, g5, g6, g7, g8⟩ := hEk hE
      refine zT.ite (fun c1 => ?_) (fun c1 => ?_)
      · rw [show (12 : Int32) = nI 12 from rfl, nI_leI (by omega) (by omega)] at c1
        have e : k = 12 := by omega
        subst e
        clear hj
        rw [show (12 : Int32) = nI 12 from rfl, nI_add]
        refine zT.ltS ?_
        refine zT.cnt 6 (fun k x => x.1 = nI k ∧ zE (pkp i) s1 x.2 ∧ gi x.2 151 i = 1 ∧ (∀ t, t < 3 → gi x.2 152 (91 * i + t) = nI (a.2.2.2.1.1 t)) ∧ (∀ b, b < 12 → gi x.2 152 (91 * i + 3 + b) = a.2.2.2.1.2.1 b) ∧ ∀ r, r < k → gi x.2 152 (91 * i + 15 + r) = (if r < a.2.2.1.1 then nI (a.2.2.2.1.2.2.1 r) else 0) ∧ gi x.2 152 (91 * i + 21 + r) = (if r < a.2.2.1.1 then nI (a.2.2.2.1.2.2.2.1 r) else -1)) (by omega) ⟨rfl, hE, f0, f1, f2, fun t ht => absurd ht (Nat.not_lt_zero _)⟩ ?_
        rintro j k ⟨_, u⟩ hk ⟨rfl, hE, f0, f1, f2, f3⟩ hj
        dsimp only at *
        obtain ⟨g1, g2, g3, g4, g5, g6, g7, g8⟩ := hEk hE
        refine zT.ite (fun c1 => ?_) (fun c1 => ?_)
        · rw [show (6 : Int32) = nI 6 from rfl, nI_leI (by omega) (by omega)] at c1
          have e : k = 6 := by omega
          subst e
          clear hj
          rw [nI_add]
          refine zT.ltS (zT.gu (inb_n (by omega) (by decide)) ?_)
          rw [nI_1, sai_n _ _ _ (by omega), g6]
          refine zT.ltS (zT.gu (inb_n (by omega) (by decide)) ?_)
          rw [sai_n _ _ _ (by omega), show gi (si u 152 (91 * i + 3 + 12 + 12) a.2.2.2.1.2.2.2.2.1) 0 27 = gi u 0 27 from rfl, g7]
          refine zT.ltS ?_
          refine zT.cnt 60 (fun k x => k ≤ a.2.2.2.1.2.2.2.2.2.length ∧ x.1 = nI k ∧ zE (pkp i) s1 x.2 ∧ gi x.2 151 i = 1 ∧ (∀ t, t < 3 → gi x.2 152 (91 * i + t) = nI (a.2.2.2.1.1 t)) ∧ (∀ b, b < 12 → gi x.2 152 (91 * i + 3 + b) = a.2.2.2.1.2.1 b) ∧ (∀ r, r < 6 → gi x.2 152 (91 * i + 15 + r) = (if r < a.2.2.1.1 then nI (a.2.2.2.1.2.2.1 r) else 0) ∧ gi x.2 152 (91 * i + 21 + r) = (if r < a.2.2.1.1 then nI (a.2.2.2.1.2.2.2.1 r) else -1)) ∧ gi x.2 152 (91 * i + 27) = a.2.2.2.1.2.2.2.2.1 ∧ gi x.2 152 (91 * i + 28) = nI a.2.2.2.1.2.2.2.2.2.length ∧ ∀ j, j < k → gi x.2 152 (91 * i + 29 + j) = lF a.2.2.2.1.2.2.2.2.2 j) (by omega) ⟨Nat.zero_le _, rfl, (hE.wi (by simp [pkp]; omega)).wi (by simp [pkp]; omega), f0, fun t ht => ?_, fun b hb => ?_, fun r hr => ⟨?_, ?_⟩, ?_, ?_, fun t ht => absurd ht (Nat.not_lt_zero _)⟩ ?_
          · rw [gi_i, if_neg (by omega), gi_i, if_neg (by omega)]; exact f1 t ht
          · rw [gi_i, if_neg (by omega), gi_i, if_neg (by omega)]; exact f2 b hb
          · rw [gi_i, if_neg (by omega), gi_i, if_neg (by omega)]; exact (f3 r hr).1
          · rw [gi_i, if_neg (by omega), gi_i, if_neg (by omega)]; exact (f3 r hr).2
          · rw [gi_i, if_neg (by omega), gi_i, if_pos ⟨rfl, by omega⟩]
          · rw [gi_i, if_pos ⟨rfl, by omega⟩]
          · rintro j k ⟨_, u⟩ hk ⟨hkl, rfl, hE, f0, f1, f2, f3, f4, f5, f6⟩ hj
            dsimp only at *
            obtain ⟨g1, g2, g3, g4, g5, g6, g7, g8⟩ := hEk hE
            rw [g7]
            refine zT.ite (fun c1 => ?_) (fun c1 => ?_)
            · rw [nI_leI (by omega) (by omega)] at c1
              have e : k = a.2.2.2.1.2.2.2.2.2.length := by omega
              subst e
              subst hr
              refine zT.ret ⟨rfl, hE0.trans (hE.mono (fun o j e => by simp [pMo, pkp] at *; omega)), okA_keep hA i, hC.fr hE ⟨⟨rfl, rfl, fun _ => rfl, fun _ => rfl, fun _ => rfl, fun _ => rfl⟩, fun _ => rfl, fun _ => rfl, fun _ => rfl, fun _ => rfl⟩, h2.fr hE ⟨rfl, fun _ => rfl⟩, MRl.fr h3 hA.2.1 hE ⟨rfl, fun _ _ => rfl⟩, h4.fr hE ⟨rfl, fun _ => rfl⟩, h5.fr hE (fun _ => ⟨rfl, rfl, rfl⟩), h6.fr hE ⟨rfl, rfl, fun _ => rfl⟩, fun i' hi' => ?_⟩
              show MKp u i' (ups a.2.2.2.2 i (some (a.2.2.2.1, a.2.2.1.1)) i')
              rw [ups_i]
              by_cases q : i' = i
              · rw [if_pos q, q]
                exact ⟨f0, f1, f2, f3, f4, f5, f6⟩
              · rw [if_neg q]
                refine (h7 i' hi').onI (fun S m e => (hA.2.2.2.2.2.2.2.2 i' S m hi' e).1.2.2.2) (hE.i (by simp [pkp]; omega)) (fun j h1 h2 => hE.i (by simp [pkp]; omega))
            · rw [nI_leI (by omega) (by omega)] at c1
              rw [show (2 : Int32) = nI 2 from rfl, nI_add, nI_add]
              refine zT.gu (inb_n (by omega) (by decide)) (zT.gu (inb_n (by omega) (by decide)) ?_)
              rw [ai_n _ _ (by omega), sai_n _ _ _ (by omega), g8 k (by omega)]
              refine zT.ltS (zT.ltS ?_)
              rw [nI_1]
              refine hj (by omega) _ ⟨by omega, rfl, hE.wi (by simp [pkp]; omega), f0, fun t ht => ?_, fun b hb => ?_, fun r hr => ⟨?_, ?_⟩, ?_, ?_, fun t ht => ?_⟩
              · dsimp only; rw [gi_i, if_neg (by omega)]; exact f1 t ht
              · dsimp only; rw [gi_i, if_neg (by omega)]; exact f2 b hb
              · dsimp only; rw [gi_i, if_neg (by omega)]; exact (f3 r hr).1
              · dsimp only; rw [gi_i, if_neg (by omega)]; exact (f3 r hr).2
              · dsimp only; rw [gi_i, if_neg (by omega)]; exact f4
              · dsimp only; rw [gi_i, if_neg (by omega)]; exact f5
              · dsimp only
                rw [gi_i]
                by_cases e : t = k
                · rw [if_pos ⟨rfl, by omega⟩, e]
                · rw [if_neg (fun w => e (by omega))]; exact f6 t (by omega)
        · rw [show (6 : Int32) = nI 6 from rfl, nI_leI (by omega) (by omega)] at c1
          refine zT.jnQ (fun v => v = (if k < a.2.2.1.1 then nI (a.2.2.2.1.2.2.1 k) else 0)) ?_ ?_
          · intro v hv
            rw [nI_add]
            refine zT.gu (inb_n (by omega) (by decide)) ?_
            rw [sai_n _ _ _ (by omega)]
            refine zT.ltS ?_
            refine zT.jnQ (fun w => w = (if k < a.2.2.1.1 then nI (a.2.2.2.1.2.2.2.1 k) else -1)) ?_ ?_
            · intro w hw
              rw [show (6 : Int32) = nI 6 from rfl, nI_add, nI_add]
              refine zT.gu (inb_n (by omega) (by decide)) ?_
              rw [sai_n _ _ _ (by omega)]
              refine zT.ltS (zT.ltS ?_)
              rw [nI_1]
              refine hj (by omega) _ ⟨rfl, (hE.wi (by simp [pkp]; omega)).wi (by simp [pkp]; omega), f0, fun t ht => ?_, fun b hb => ?_, fun r hr => ⟨?_, ?_⟩⟩
              · dsimp only; rw [gi_i, if_neg (by omega), gi_i, if_neg (by omega)]; exact f1 t ht
              · dsimp only; rw [gi_i, if_neg (by omega), gi_i, if_neg (by omega)]; exact f2 b hb
              · dsimp only
                rw [gi_i, if_neg (by omega), gi_i]
                by_cases e : r = k
                · rw [if_pos ⟨rfl, by omega⟩, hv, e]
                · rw [if_neg (fun q => e (by omega))]; exact (f3 r (by omega)).1
              · dsimp only
                rw [gi_i]
                by_cases e : r = k
                · rw [if_pos ⟨rfl, by omega⟩, hw, e]
                · rw [if_neg (fun q => e (by omega)), gi_i, if_neg (by omega)]; exact (f3 r (by omega)).2
            · intro j36 hj36
              rw [show gi (si u 152 (91 * i + 3 + 12 + k) v) 0 9 = gi u 0 9 from rfl, g2]
              refine zT.ite (fun c2 => ?_) (fun c2 => ?_)
              · rw [nI_leI (by omega) (by omega)] at c2
                exact hj36 _ (by rw [if_neg (by omega)])
              · rw [nI_leI (by omega) (by omega)] at c2
                refine zT.gu (inb_n (by omega) (by decide)) (hj36 _ ?_)
                rw [ai_n _ _ (by omega), if_pos (by omega), gi_i, if_neg (by omega)]
                exact (g5 k (by omega)).2
          · intro j39 hj39
            rw [g2]
            refine zT.ite (fun c2 => ?_) (fun c2 => ?_)
            · rw [nI_leI (by omega) (by omega)] at c2
              exact hj39 _ (by rw [if_neg (by omega)])
            · rw [nI_leI (by omega) (by omega)] at c2
              refine zT.gu (inb_n (by omega) (by decide)) (hj39 _ ?_)
              rw [ai_n _ _ (by omega), if_pos (by omega)]
              exact (g5 k (by omega)).1
      · rw [show (12 : Int32) = nI 12 from rfl, nI_leI (by omega) (by omega)] at c1
        refine zT.jnQ (fun v => v = a.2.2.2.1.2.1 k) ?_ ?_
        · intro v hv
          rw [nI_add]
          refine zT.gu (inb_n (by omega) (by decide)) ?_
          rw [sai_n _ _ _ (by omega)]
          refine zT.ltS (zT.ltS ?_)
          rw [nI_1]
          refine hj (by omega) _ ⟨rfl, hE.wi (by simp [pkp]; omega), f0, fun t ht => ?_, fun b hb => ?_⟩
          · dsimp only; rw [gi_i, if_neg (by omega)]; exact f1 t ht
          · dsimp only
            rw [gi_i]
            by_cases e : b = k
            · rw [if_pos ⟨rfl, by omega⟩, hv, e]
            · rw [if_neg (fun q => e (by omega))]; exact f2 b (by omega)
        · intro j46 hj46
          rw [g1]
          refine zT.ite (fun c2 => ?_) (fun c2 => ?_)
          · rw [nI_leI (by omega) (by omega)] at c2
            exact hj46 _ (hA.2.2.2.2.2.2.2.1.2.1 k c2).symm
          · refine zT.gu (inb_n (by omega) (by decide)) (hj46 _ ?_)
            rw [ai_n _ _ (by omega)]
            exact g4 k (by omega)
    · rw [show (3 : Int32) = nI 3 from rfl, nI_leI (by omega) (by omega)] at c1
      obtain ⟨g1, g2, g3, g4, g5, g6, g7, g8⟩ := hEk hE
      rw [nI_add]
      refine zT.gu (inb_n (by omega) (by decide)) (zT.gu (inb_n (by omega) (by decide)) ?_)
      rw [ai_n _ _ (by omega), sai_n _ _ _ (by omega), g3 k (by omega)]
      refine zT.ltS (zT.ltS ?_)
      rw [nI_1]
      refine hj (by omega) _ ⟨rfl, hE.wi (by simp [pkp]; omega), f0, fun t ht => ?_⟩
      dsimp only
      rw [gi_i]
      by_cases e : t = k
      · rw [if_pos ⟨rfl, by omega⟩, e]
      · rw [if_neg (fun q => e (by omega))]; exact f1 t (by omega)
  · rw [if_neg c] at hr
    subst hr
    exact zT.ret ⟨rfl, hE0, hz⟩
end Z51
