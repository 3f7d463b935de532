-- the ring told: reference
section Z56
/-- the ring to be told: how long, from whom -/
def RS (g : Nat → Nat) (N : Nat) (p : Nat × Nat) : Prop := 1 ≤ p.1 ∧ p.1 ≤ N ∧ p.2 < N ∧ (nr g p.2 N p.1).testBit p.2 = true ∧ (∀ i l, i < N → 1 ≤ l → l < p.1 → (nr g i N l).testBit i = false) ∧ ∀ i, i < p.2 → (nr g i N p.1).testBit i = false
noncomputable def rg (g : Nat → Nat) (N : Nat) : Option (Nat × Nat) := @dite _ (∃ p, RS g N p) (Classical.propDecidable _) (fun h => some (Classical.choose h)) (fun _ => none)
theorem RS.un {g : Nat → Nat} {N : Nat} {p q : Nat × Nat} (hp : RS g N p) (hq : RS g N q) : p = q := by
  obtain ⟨p1, p2, p3, p4, p5, p6⟩ := hp
  obtain ⟨q1, q2, q3, q4, q5, q6⟩ := hq
  have e1 : p.1 = q.1 := by
    rcases Nat.lt_trichotomy p.1 q.1 with h | h | h
    · rw [q5 p.2 p.1 p3 p1 h] at p4; cases p4
    · exact h
    · rw [p5 q.2 q.1 q3 q1 h] at q4; cases q4
  have e2 : p.2 = q.2 := by
    rcases Nat.lt_trichotomy p.2 q.2 with h | h | h
    · rw [e1, q6 p.2 h] at p4; cases p4
    · exact h
    · rw [← e1, p6 q.2 h] at q4; cases q4
  exact Prod.ext e1 e2
theorem rg_some {g : Nat → Nat} {N : Nat} {p : Nat × Nat} (h : RS g N p) : rg g N = some p := by
  unfold rg
  rw [dif_pos ⟨p, h⟩]
  exact congrArg some (RS.un (Classical.choose_spec (⟨p, h⟩ : ∃ p, RS g N p)) h)
theorem rg_none {g : Nat → Nat} {N : Nat} (h : ∀ i l, i < N → 1 ≤ l → l ≤ N → (nr g i N l).testBit i = false) : rg g N = none := by
  unfold rg
  rw [dif_neg]
  rintro ⟨p, p1, p2, p3, p4, _⟩
  rw [h p.2 p.1 p3 p1 p2] at p4; cases p4
def prw (g : Nat → Nat) (b N L k : Nat) : List Int32 := (List.range k).map (fun j => nI (pv g b N L j))
theorem prw_s (g : Nat → Nat) (b N L k : Nat) : prw g b N L (k + 1) = prw g b N L k ++ [nI (pv g b N L k)] := by
  unfold prw
  rw [List.range_succ, List.map_append]; rfl
theorem prw_len (g : Nat → Nat) (b N L k : Nat) : (prw g b N L k).length = k := by unfold prw; rw [List.length_map, List.length_range]
noncomputable def sTell (g : Nat → Nat) (N : Nat) (a : ZA) : Int32 × ZA := match rg g N with
  | none => (0, a)
  | some (L, b) => (nI L, putR a (prw g b N L L))
theorem MA.s131 {s t : ZSt} {a : ZA} (h : MA s a) (hE : zE (p131 0) s t) : MA t a := h.fr hE (fun o j e => by simp [qM, p131] at *; omega)
theorem p131_mo {s t : ZSt} (h : zE (p131 0) s t) : zE pMo s t := h.mono (fun o j e => by simp [pMo, p131] at *; omega)
theorem p131_0 {s t : ZSt} {k : Nat} (h : zE (p131 k) s t) : zE (p131 0) s t := h.mono (fun o j e => by simp [p131] at *; intro w; exact absurd w e)
theorem m_tellsRing {n fr N : Nat} {g : Nat → Nat} {s : ZSt} {a : ZA} (hn : 100 < n) (hN : N ≤ 12) (h : MA s a) (hk : lkM s g N) (hf : 1 ≤ fr) (hf2 : fr ≤ 2) (h0 : ∀ i l, i < N → 1 ≤ l → l < fr → (nr g i N l).testBit i = false) : zT (fc_M_tellsRing n (nI fr) (nI N) s) (mP (sTell g N a).1 (sTell g N a).2 s) := by
  have hp12 : 2 ^ N ≤ 4096 := Nat.pow_le_pow_right (n := 2) (by decide) hN
  generalize hr : sTell g N a = r
  unfold sTell at hr
  unfold fc_M_tellsRing f_M_tellsRing
  refine zT.cnt 14 (fun k x => x.1 = nI (fr + k) ∧ zE (p131 0) s x.2 ∧ ∀ i l, i < N → 1 ≤ l → l < fr + k → (nr g i N l).testBit i = false) (by omega) ⟨rfl, zE.refl _ _, h0⟩ ?_
  rintro j k ⟨_, t⟩ hk14 ⟨rfl, hE, f1⟩ hj
  dsimp only at *
  refine zT.ite (fun c => ?_) (fun c => ?_)
  · rw [nI_ltI (by omega) (by omega)] at c
    rw [rg_none (fun i l hi h1 h2 => f1 i l hi h1 (by omega))] at hr
    subst hr
    exact zT.ret ⟨rfl, p131_mo hE, h.s131 hE⟩
  · rw [nI_ltI (by omega) (by omega)] at c
    refine zT.cnt 12 (fun i x => i ≤ N ∧ x.1 = nI i ∧ zE (p131 0) s x.2 ∧ ∀ m, m < i → (nr g m N (fr + k)).testBit m = false) (by omega) ⟨Nat.zero_le _, rfl, hE, fun m hm => absurd hm (Nat.not_lt_zero _)⟩ ?_
    rintro j5 i ⟨_, u⟩ hi12 ⟨hiN, rfl, hE2, f2⟩ hj5
    dsimp only at *
    refine zT.ite (fun c1 => ?_) (fun c1 => ?_)
    · rw [nI_leI (by omega) (by omega)] at c1
      have e : i = N := by omega
      subst e
      rw [nI_1]
      refine zT.ltS (hj (by omega) _ ⟨rfl, hE2, fun m l hm h1 h2 => ?_⟩)
      by_cases q : l = fr + k
      · rw [q]; exact f2 m hm
      · exact f1 m l hm h1 (by omega)
    · rw [nI_leI (by omega) (by omega)] at c1
      rw [show sai u 131 (0 : Int32) (nI i) = si u 131 0 (nI i) from rfl, shI_n (by omega)]
      refine zT.ltS ?_
      have hE3 : zE (p131 0) s (si u 131 0 (nI i)) := hE2.wi (by simp [p131])
      have hlk : lkM (si u 131 0 (nI i)) g N := hk.fr hE3
      have h2i : 2 ^ i < 4096 := Nat.lt_of_lt_of_le (p2_lt (show i < N by omega)) hp12
      cases hc : (nr g i N (fr + k)).testBit i
      · refine zT.bnT (m_ringsF (q := 17) hn (show i < N by omega) hN (show fr + k ≤ N by omega) 18 1 i (2 ^ i) _ (by omega) (by omega) (by omega) (by omega) hlk (by rw [gi_i, if_pos ⟨rfl, rfl⟩]) (by rw [gi_i, if_pos ⟨rfl, rfl⟩]) (Nat.le_refl _) (by omega) h2i (by rw [show fr + k - 1 + 1 = fr + k by omega]; exact hc)) ?_
        rintro ⟨_, w⟩ ⟨rfl, hE4⟩
        refine zT.ie (show ¬ (false = true) by decide) ?_
        rw [nI_1]
        refine zT.ltS (hj5 (by omega) _ ⟨by omega, rfl, hE3.trans (p131_0 hE4), fun m hm => ?_⟩)
        by_cases q : m = i
        · rw [q]; exact hc
        · exact f2 m (by omega)
      · have hRS : RS g N (fr + k, i) := ⟨by show 1 ≤ fr + k; omega, by show fr + k ≤ N; omega, by show i < N; omega, hc, f1, f2⟩
        rw [rg_some hRS] at hr
        have hr : (nI (fr + k), putR a (prw g i N (fr + k) (fr + k))) = r := hr
        subst hr
        refine zT.bnT (m_ringsT (q := 17) hn (show i < N by omega) hN (show fr + k ≤ N by omega) hc (fun l h1 h2 => f1 i l (by omega) h1 h2) 18 1 (2 ^ i) _ (by omega) (by omega) (by omega) (by omega) hlk (fun j hj => by rw [show j = 0 by omega, gi_i, if_pos ⟨rfl, rfl⟩]; rfl) h2i (fun v hv => ⟨0, by omega, by rw [tb2, decide_eq_true_eq] at hv; rw [← hv]; rfl⟩)) ?_
        rintro ⟨_, w⟩ ⟨rfl, hE4, hw⟩
        dsimp only at hw
        refine zT.it rfl (zT.ltS ?_)
        have hE5 := hE3.trans (p131_0 hE4)
        have hM := h.s131 hE5
        refine zT.cnt 12 (fun m x => m ≤ fr + k ∧ x.1 = nI m ∧ zE prm w x.2 ∧ MA x.2 (putR a (prw g i N (fr + k) m))) (by omega) ⟨Nat.zero_le _, rfl, (zE.refl _ _).wi rfl, hM.put0⟩ ?_
        rintro j13 m ⟨_, x⟩ hm12 ⟨hmL, rfl, hE6, hM2⟩ hj13
        dsimp only at *
        refine zT.ite (fun c2 => ?_) (fun c2 => ?_)
        · rw [nI_leI (by omega) (by omega)] at c2
          have e : m = fr + k := by omega
          subst e
          exact zT.ret ⟨rfl, (p131_mo hE5).trans (prm_mo hE6), hM2⟩
        · rw [nI_leI (by omega) (by omega)] at c2
          refine zT.gu (inb_n (by omega) (by decide)) ?_
          rw [ai_n _ _ (by omega), hE6.i (o := 131) rfl, hw m (by omega)]
          refine zT.bnT (m_ent _ hM2 (by rw [prw_len]; omega)) ?_
          rintro y ⟨hE7, hM3⟩
          rw [nI_1]
          refine zT.ltS (hj13 (by omega) _ ⟨by omega, rfl, hE6.trans hE7, ?_⟩)
          dsimp only
          rw [prw_s]; exact hM3
end Z56
