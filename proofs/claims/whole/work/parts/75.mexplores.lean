-- the reference's search is the search
section Z75
def MF (u : ZSt) (a : ZA) (Q : ZQ) (ed : Nat → List Nat) : Prop :=
  (∃ cell slot, MH u Q cell slot) ∧ (∀ k, k < Q.1 → okF a.2.1.1 (dcd (Q.2.1 k))) ∧ ∀ j e, j < Q.1 → e < 36 → gi u 147 (36 * j + e) = erow (ed j) e
theorem MF.fr {p : Nat → Nat → Bool} {u v : ZSt} {a : ZA} {Q : ZQ} {ed : Nat → List Nat} (h : MF u a Q ed) (hE : zE p u v) (hp : ∀ o j, ((o == 0 && j == 49) || (decide (143 ≤ o) && decide (o < 149))) = true → p o j = false) : MF v a Q ed := by
  obtain ⟨⟨c, l, h1⟩, h2, h3⟩ := h
  exact ⟨⟨c, l, h1.fr hE (fun o j e => hp o j (by simp at *; omega))⟩, h2, fun j e hj he => (hE.i (hp _ _ (by simp))).trans (h3 j e hj he)⟩
def meB (a : ZA) (r : Bool × ZSt) : Option (ZQ × (Nat → List Nat)) → Prop
  | none => r.1 = false
  | some (Q, ed) => r.1 = true ∧ MF r.2 a Q ed
def meP (s : ZSt) (a : ZA) (B : Option (ZQ × (Nat → List Nat))) (r : Bool × ZSt) : Prop := zE pMo s r.2 ∧ MA r.2 a ∧ meB a r B
def pfl (i m : Nat) : Nat → Nat → Bool := fun o j => o == 147 && decide (36 * i + m ≤ j)
theorem m_fill {n i m : Nat} {s : ZSt} {P : Bool × ZSt → Prop} {k0 : ZSt → Option (Bool × ZSt)} (hn : 20000 < n) (hi : i < 5000) (hm : m ≤ 36)
    (h : ∀ t, zE (pfl i m) s t → (∀ e, m ≤ e → e < 36 → gi t 147 (36 * i + e) = -1) → zT (k0 t) P) :
    zT (lpN (fun (j16 : Int32 × ZSt → Option (Bool × ZSt)) (x15 : Int32 × ZSt) =>
              (if (36 : Int32) ≤ x15.1 then
                k0 x15.2
              else gd (inb (((36 : Int32) * nI i) + x15.1) 180000) (
                  lt (sai x15.2 147 (((36 : Int32) * nI i) + x15.1) (-1 : Int32)) (fun s20 =>
                  lt (x15.1 + (1 : Int32)) (fun v21 =>
                  j16 (v21, s20)))))) n (nI m, s)) P := by
  refine zT.cnt 36 (fun c x => m + c ≤ 36 ∧ x.1 = nI (m + c) ∧ zE (pfl i m) s x.2 ∧ ∀ e, m ≤ e → e < m + c → gi x.2 147 (36 * i + e) = -1) (by omega) ⟨hm, rfl, zE.refl _ _, fun e h1 h2 => by omega⟩ ?_
  rintro j c ⟨_, t⟩ hc ⟨hmc, rfl, hE, hl⟩ hj
  dsimp only at *
  refine zT.ite (fun q => ?_) (fun q => ?_)
  · rw [show (36 : Int32) = nI 36 from rfl, nI_leI (by omega) (by omega)] at q
    exact h t hE (fun e h1 h2 => hl e h1 (by omega))
  · rw [show (36 : Int32) = nI 36 from rfl, nI_leI (by omega) (by omega)] at q
    rw [show (36 : Int32) = nI 36 from rfl, nI_mulL, nI_add, sai_n _ _ _ (by omega), nI_1]
    refine zT.gu (inb_n (by omega) (by decide)) (zT.ltS (zT.ltS (hj (by omega) _ ⟨by omega, rfl, hE.wi (by simp [pfl]), fun e h1 h2 => ?_⟩)))
    dsimp only
    rw [gi_i]
    by_cases q2 : e = m + c
    · rw [if_pos ⟨rfl, by rw [q2]⟩]
    · rw [if_neg (fun w => q2 (by have := w.2; omega))]
      exact hl e h1 (by omega)
theorem erow_no {l : List Nat} {e : Nat} (h : l.length ≤ e) : erow l e = -1 := by unfold erow; rw [if_neg (by omega)]
theorem erow_yes {l : List Nat} {e : Nat} (h : e < l.length) : erow l e = nI (l.getD e 0) := by unfold erow; rw [if_pos h]
set_option maxHeartbeats 1000000 in
theorem m_explores {n c0 : Nat} {s : ZSt} {a : ZA} (hn : 20000 < n) (h : MA s a) (hc : okF a.2.1.1 (dcd c0)) (hc2 : c0 < 2 ^ 36) : zT (f_M_explores n (lN c0) s) (meP s a (sch (sucA a wal) c0)) := by
  generalize hB0 : sch (sucA a wal) c0 = B
  unfold f_M_explores
  refine zT.cnt 16384 (fun k x => x.1 = nI k ∧ zE (fun o _ => o == 148) s x.2 ∧ ∀ p, p < k → gi x.2 148 p = -1) (by omega) ⟨rfl, zE.refl _ _, fun p hp => absurd hp (Nat.not_lt_zero _)⟩ ?_
  rintro j2 k ⟨_, s1⟩ hk ⟨rfl, hE1, hl⟩ hj2
  dsimp only at *
  refine zT.ite (fun q => ?_) (fun q => ?_)
  rotate_left
  · rw [show (16384 : Int32) = nI 16384 from rfl, nI_leI (by omega) (by omega)] at q
    refine zT.gu (inb_n (by omega) (by decide)) ?_
    rw [sai_n _ _ _ (by omega), nI_1]
    refine zT.ltS (zT.ltS (hj2 (by omega) _ ⟨rfl, hE1.wi rfl, fun p hp => ?_⟩))
    dsimp only
    rw [gi_i]
    by_cases e : p = k
    · rw [if_pos ⟨rfl, e⟩]
    · rw [if_neg (fun w => e w.2)]; exact hl p (by omega)
  rw [show (16384 : Int32) = nI 16384 from rfl, nI_leI (by omega) (by omega)] at q
  have e : k = 16384 := by omega
  subst e
  clear hj2 q hk
  refine zT.ln (fun s4 hs4 => ?_)
  have hE4 : zE pex s s4 := by rw [hs4]; exact (hE1.mono (fun o j w => by simp [pex] at *; omega)).wi (by simp [pex])
  have hM4 : MH s4 q0 (fun _ => 0) (fun _ => 0) := by
    refine ⟨by rw [hs4, gi_i, if_pos ⟨rfl, rfl⟩]; rfl, fun i hi => absurd hi (Nat.not_lt_zero _), fun p hp => ?_, ⟨fun p hp => ⟨Nat.le_refl _, fun w => absurd rfl w⟩, fun i hi => absurd hi (Nat.not_lt_zero _), Nat.zero_le _⟩, fun i j hi => absurd hi (Nat.not_lt_zero _)⟩
    rw [hs4, gi_i, if_neg (by omega), hl p hp]; rfl
  refine zT.bnT (hM4.place (d := 0) (f := -1) (a := -1) hn hc2 (Or.inl ⟨rfl, rfl⟩)) ?_
  rintro ⟨_, s5⟩ ⟨hE5, hp5⟩
  rw [q1_put] at hp5
  obtain ⟨_, _, c5, l5, hM5⟩ := hp5
  dsimp only at hE5 hM5 ⊢
  have hE45 : zE pex s s5 := hE4.trans (hE5.mono (fun o j w => by simp [pex, pmq] at *; omega))
  have hE45b : zE (fun o j => (decide (143 ≤ o) && decide (o < 149)) || (o == 0 && j == 49)) s s5 := ((by rw [hs4]; exact (hE1.mono (fun o j w => by simp at *; omega)).wi (by simp) : zE (fun o j => (decide (143 ≤ o) && decide (o < 149)) || (o == 0 && j == 49)) s s4)).trans (hE5.mono (fun o j w => by simp [pmq] at *; omega))
  refine zT.bnT (m_putsBy s5 (by omega)) ?_
  rintro s6 ⟨hE6, p1, p2⟩
  have hX6 : EX s s6 a := by
    refine ⟨hE45.trans (hE6.mono (fun o j w => by simp [pex, p123] at *; omega)), fun t ht => ?_, fun t ht => ?_, fun t ht => ?_⟩
    · rw [p1 t ht, hE45b.i (by simp)]; exact h.2.1.2.2.2.2.1 t ht
    · rw [p2 t ht, hE45b.i (by simp)]; exact h.2.1.2.2.1 t ht
    · rw [hE6.i (by simp [p123]), hE45b.i (by simp)]; exact h.2.1.2.2.1 t ht
  have hM6 : MH s6 (q1 c0) c5 l5 := hM5.fr hE6 (fun o j w => by simp [p123] at *; omega)
  refine zT.jnQ (fun y => EX s y.2 a ∧ meB a y B) ?_ ?_
  · rintro ⟨w, s7⟩ ⟨hX7, hw⟩
    dsimp only at *
    refine zT.bnT (m_putsBack s7 (by omega)) ?_
    rintro s8 ⟨hE8, r1, r2⟩
    obtain ⟨x1, x2, x3, x4⟩ := hX7
    have hE78 : zE pex s s8 := x1.trans (hE8.mono (fun o j w => by simp [pex, p185] at *; omega))
    have hX8 : EX s s8 a := ⟨hE78, fun t ht => (hE8.i (by simp [p185])).trans (x2 t ht), fun t ht => (hE8.i (by simp [p185])).trans (x3 t ht), fun t ht => (r2 t ht).trans (x3 t ht)⟩
    have hMK := hX8.mk h (g := a.2.2.2.1.1) (fun t ht => (r1 t ht).trans (x2 t ht)) h.2.1.2.2.2.2.2
    have hMA : MA s8 a := h.put hE78 (fun o j e1 e2 => by simp [qM, pex] at *; omega) (lim := a.2.1.2.2.2.2.1) (rm := a.2.1.2.2.2.2.2) (f := a.2.2.2.1.1) (opn := a.2.2.2.1.2.1) h.1 hMK
    refine zT.ret ⟨pex_mo hE78, hMA, ?_⟩
    cases B with
    | none => exact hw
    | some x =>
      obtain ⟨Q, ed⟩ := x
      exact ⟨hw.1, hw.2.fr hE8 (fun o j w => by simp [p185] at *; omega)⟩
  intro j9 hj9
  refine zT.cnt 5000 (fun k x => x.2.1 = nI k ∧ ((x.1 = false ∧ EX s x.2.2 a ∧ B = none) ∨ (x.1 = true ∧ ∃ Q ed, B = bfs (sucA a wal) (5001 - k) k Q ed ∧ k ≤ Q.1 ∧ EX s x.2.2 a ∧ (∃ cell slot, MH x.2.2 Q cell slot) ∧ (∀ k, k < Q.1 → okF a.2.1.1 (dcd (Q.2.1 k))) ∧ ∀ j e, j < k → e < 36 → gi x.2.2 147 (36 * j + e) = erow (ed j) e))) (by omega) ⟨rfl, Or.inr ⟨rfl, q1 c0, fun _ => [], hB0.symm, Nat.zero_le _, hX6, ⟨c5, l5, hM6⟩, q1_all (P := fun c => okF a.2.1.1 (dcd c)) hc, fun j e hj => absurd hj (Nat.not_lt_zero _)⟩⟩ ?_
  rintro j11 k ⟨_, _, v⟩ hk ⟨rfl, hv⟩ hj11
  dsimp only at *
  rcases hv with ⟨rfl, hX, hno⟩ | ⟨rfl, Q, ed, hB, hkQ, hX, ⟨cl, sl', hM⟩, hok, hrow⟩
  · have fin : zT (j9 (false, v)) (meP s a B) := hj9 _ ⟨hX, by rw [hno]; exact rfl⟩
    refine zT.ite (fun q => fin) (fun q => zT.ie (by decide) fin)
  have hQ5 := hM.2.2.2.1.2.2
  rw [show 5001 - k = (5000 - k) + 1 by omega, bfs_s] at hB
  rw [hM.1]
  refine zT.ite (fun q => ?_) (fun q => ?_)
  · rw [nI_leI (by omega) (by omega)] at q
    rw [if_neg (by omega)] at hB
    have e : k = Q.1 := by omega
    refine hj9 _ ⟨hX, ?_⟩
    rw [hB]
    exact ⟨rfl, ⟨cl, sl', hM⟩, hok, fun j e hj he => hrow j e (by omega) he⟩
  rw [nI_leI (by omega) (by omega)] at q
  have hkQ : k < Q.1 := by omega
  rw [if_pos hkQ] at hB
  refine zT.it rfl ?_
  refine zT.jnQ (fun y => (y.1 = false ∧ (∃ m, y.2.1 = nI m ∧ m ≤ 36) ∧ EX s y.2.2 a ∧ B = none) ∨ (y.1 = true ∧ ∃ Q' es, y.2.1 = nI es.length ∧ es.length ≤ 36 ∧ B = bfs (sucA a wal) (5000 - k) (k + 1) Q' (ups ed k es) ∧ EN s y.2.2 a k Q' ed es)) ?_ ?_
  · rintro ⟨_, _, y⟩ (⟨rfl, ⟨m, rfl, hm⟩, hX7, hno⟩ | ⟨rfl, Q', es, rfl, hes, hb, hN⟩)
    · dsimp only at *
      refine m_fill (k0 := fun t => lt (nI k + (1 : Int32)) (fun v18 => j11 (false, v18, t))) hn (by omega) hm ?_
      intro t hE _
      rw [nI_1]
      refine zT.ltS (hj11 (by omega) _ ⟨rfl, Or.inl ⟨rfl, hX7.go hE (fun o j w => by simp [pfl, pex] at *; omega), hno⟩⟩)
    · dsimp only at *
      refine m_fill (k0 := fun t => lt (nI k + (1 : Int32)) (fun v18 => j11 (true, v18, t))) hn (by omega) hes ?_
      intro t hE hz
      rw [nI_1]
      obtain ⟨n1, ⟨c7, l7, n2⟩, n3, n4, n5, n6⟩ := hN
      refine zT.ltS (hj11 (by omega) _ ⟨rfl, Or.inr ⟨rfl, Q', ups ed k es, ?_, by omega, n1.go hE (fun o j w => by simp [pfl, pex] at *; omega), ⟨c7, l7, ?_⟩, n3, fun j e hj he => ?_⟩⟩)
      · rw [hb, show 5001 - (k + 1) = 5000 - k by omega]
      · obtain ⟨m1, m2, m3, m4⟩ := n2
        refine ⟨(hE.i (by simp [pfl])).trans m1, fun i hi => ?_, fun p hp => (hE.i (by simp [pfl])).trans (m3 p hp), m4⟩
        obtain ⟨a1, a2, a3, a4, a5⟩ := m2 i hi
        exact ⟨(hE.l (by simp [pfl])).trans a1, a2, (hE.i (by simp [pfl])).trans a3, (hE.i (by simp [pfl])).trans a4, (hE.i (by simp [pfl])).trans a5⟩
      · dsimp only
        by_cases e1 : j = k
        · subst e1
          rw [ups_s]
          by_cases e2 : e < es.length
          · rw [erow_yes e2, hE.i (by simp [pfl]; omega)]
            exact n5 e e2
          · rw [erow_no (by omega)]
            exact hz e (by omega) he
        · rw [ups_n _ _ e1, hE.i (by simp [pfl]; omega)]
          exact n4 j e (by omega) he
  · intro j22 hj22
    refine m_node hn h (⟨hX, ⟨cl, sl', hM⟩, hok, hrow, fun e he => absurd he (Nat.not_lt_zero _), hkQ⟩ : EN s v a k Q ed []) rfl (by omega) (fun w m hno hm hXw => ?_) (fun w Q' es hb hN hes => ?_)
    · rw [hno] at hB
      exact hj22 _ (Or.inl ⟨rfl, ⟨m, rfl, hm⟩, hXw, hB⟩)
    · rw [hb] at hB
      exact hj22 _ (Or.inr ⟨rfl, Q', es, rfl, hes, hB, hN⟩)
theorem okS_f {a : ZA} (h : okA a) : okF a.2.1.1 a.2.2.2.1.1 := h.2.2.2.2.2.2.2.1.1
end Z75
