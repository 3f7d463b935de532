-- the reference's search: one state's acts
section Z74
def pex : Nat → Nat → Bool := fun o j => o == 116 || o == 108 || o == 105 || o == 123 || o == 124 || (decide (143 ≤ o) && decide (o < 149)) || (o == 0 && j == 49)
theorem pex_mo {s t : ZSt} (h : zE pex s t) : zE pMo s t := h.mono (fun o j e => by simp [pMo, pex] at *; omega)
def EX (s u : ZSt) (a : ZA) : Prop := zE pex s u ∧ (∀ k, k < 3 → gi u 123 k = nI (a.2.2.2.1.1 k)) ∧ (∀ k, k < 12 → gi u 124 k = a.2.2.2.1.2.1 k) ∧ ∀ k, k < 12 → gi u 105 k = a.2.2.2.1.2.1 k
theorem EX.mk {s u : ZSt} {a : ZA} (h : MA s a) (e : EX s u a) {g : Nat → Nat} (hg : ∀ t, t < 3 → gi u 108 t = nI (g t)) (hok : okF a.2.1.1 g) : MK u a.2.1.1 a.2.2.1.1 a.2.2.2.1.2.2.1 (aD a) a.2.1.2.2.2.2.1 a.2.2.2.1.2.1 a.2.1.2.2.2.2.2 g := by
  obtain ⟨q1, q2, q3, q4, q5, q6⟩ := h.2.1
  obtain ⟨e1, e2, e3, e4⟩ := e
  refine ⟨q1.fr e1 ⟨rfl, rfl, fun _ => rfl, fun _ => rfl, fun _ => rfl, fun _ => rfl⟩, fun b hb => (e1.i rfl).trans (q2 b hb), e4, fun t ht => ⟨(e1.i rfl).trans (q4 t ht).1, (q4 t ht).2⟩, hg, hok⟩
/-- what leaves the things put by as they are -/
theorem EX.go {s u v : ZSt} {a : ZA} (e : EX s u a) {p : Nat → Nat → Bool} (hE : zE p u v) (hp : ∀ o j, pex o j = false ∨ o = 123 ∨ o = 124 ∨ o = 105 → p o j = false) : EX s v a := by
  obtain ⟨e1, e2, e3, e4⟩ := e
  refine ⟨e1.trans (hE.mono (fun o j w => hp o j (Or.inl w))), fun k hk => (hE.i (hp _ _ (by simp))).trans (e2 k hk), fun k hk => (hE.i (hp _ _ (by simp))).trans (e3 k hk), fun k hk => (hE.i (hp _ _ (by simp))).trans (e4 k hk)⟩
def erow (l : List Nat) (e : Nat) : Int32 := if e < l.length then nI (l.getD e 0) else -1
def EN (s u : ZSt) (a : ZA) (i : Nat) (Q : ZQ) (ed : Nat → List Nat) (es : List Nat) : Prop :=
  EX s u a ∧ (∃ cell slot, MH u Q cell slot) ∧ (∀ k, k < Q.1 → okF a.2.1.1 (dcd (Q.2.1 k))) ∧ (∀ j e, j < i → e < 36 → gi u 147 (36 * j + e) = erow (ed j) e) ∧ (∀ e, e < es.length → gi u 147 (36 * i + e) = nI (es.getD e 0)) ∧ i < Q.1
theorem EN.go {s u v : ZSt} {a : ZA} {i : Nat} {Q : ZQ} {ed : Nat → List Nat} {es : List Nat} (h : EN s u a i Q ed es) (hE : zE (fun o _ => o == 116 || o == 108) u v) : EN s v a i Q ed es := by
  obtain ⟨h1, ⟨c, l, h2⟩, h3, h4, h5, h6⟩ := h
  exact ⟨h1.go hE (fun o j w => by simp [pex] at *; omega), ⟨c, l, h2.fr hE (fun o j w => by simp at *; omega)⟩, h3, fun j e hj he => (hE.i rfl).trans (h4 j e hj he), fun e he => (hE.i rfl).trans (h5 e he), h6⟩
theorem EN.edge {s u : ZSt} {a : ZA} {i k : Nat} {Q : ZQ} {ed : Nat → List Nat} {es : List Nat} (h : EN s u a i Q ed es) (hl : es.length < 36) : EN s (si u 147 (36 * i + es.length) (nI k)) a i Q ed (es ++ [k]) := by
  obtain ⟨h1, ⟨c, l, h2⟩, h3, h4, h5, h6⟩ := h
  have hE : zE (fun o _ => o == 147) u (si u 147 (36 * i + es.length) (nI k)) := (zE.refl _ _).wi rfl
  refine ⟨h1.go hE (fun o j w => by simp [pex] at *; omega), ⟨c, l, ?_⟩, h3, fun j e hj he => ?_, fun e he => ?_, h6⟩
  · obtain ⟨m1, m2, m3, m4⟩ := h2
    exact ⟨m1, m2, m3, m4⟩
  · rw [gi_i, if_neg (by omega)]
    exact h4 j e hj he
  · rw [getD_app he, gi_i]
    by_cases q : e = es.length
    · rw [if_pos ⟨rfl, by rw [q]⟩, if_pos q]
    · rw [if_neg (fun w => q (by have := w.2; omega)), if_neg q]
      rw [List.length_append, List.length_singleton] at he
      exact h5 e (by omega)
theorem bacts_pre {a : ZA} {c k i : Nat} (hk : k ≤ 140) {Q : ZQ} (h : bacts (sac a c k) i Q [] = none) : bacts (sac a c 140) i Q [] = none := by
  obtain ⟨r, hr⟩ := sac_pre a c k 140 hk
  rw [hr, bacts_app, h]
set_option maxHeartbeats 1000000 in
theorem m_node {n i c : Nat} {s u : ZSt} {a : ZA} {Q0 : ZQ} {ed : Nat → List Nat} {P : Bool × ZSt → Prop} {j22 : Bool × Int32 × ZSt → Option (Bool × ZSt)}
    (hn : 20000 < n) (h : MA s a) (h0 : EN s u a i Q0 ed []) (hc : Q0.2.1 i = c) (hi : i < 5000)
    (hF : ∀ v m, bacts (sucA a wal c) i Q0 [] = none → m ≤ 36 → EX s v a → zT (j22 (false, nI m, v)) P)
    (hG : ∀ v Q es, bacts (sucA a wal c) i Q0 [] = some (Q, es) → EN s v a i Q ed es → es.length ≤ 36 → zT (j22 (true, nI es.length, v)) P) :
    zT (lpN (fun (j24 : Bool × Int32 × Int32 × ZSt → Option (Bool × ZSt)) (x23 : Bool × Int32 × Int32 × ZSt) =>
            (if (140 : Int32) ≤ x23.2.2.1 then
              j22 (x23.1, x23.2.1, x23.2.2.2)
            else (if x23.1 = true then
                gd (inb (nI i) 5000) (
                  bn (f_M_stands n (al x23.2.2.2 143 (nI i)) x23.2.2.2) (fun p28 =>
                  (jn (fun (x29 : Bool × Int32 × ZSt) =>
                    lt (x23.2.2.1 + (1 : Int32)) (fun v30 =>
                      j24 (x29.1, x29.2.1, v30, x29.2.2))) (fun j31 =>
                    if (f_M_isAct x23.2.2.1 p28) = true then
                  bn (f_M_whyNot n x23.2.2.1 p28) (fun p33 =>
                    (if 0 ≤ p33.1 then
                    bn (f_M_makes n x23.2.2.1 p33.2) (fun p35 =>
                      gd (inb (remI x23.2.2.1 (20 : Int32)) 12) (
                      lt (sai p35.2 105 (remI x23.2.2.1 (20 : Int32)) (ai p35.2 124 (remI x23.2.2.1 (20 : Int32)))) (fun s37 =>
                      bn (f_M_stateNow s37) (fun p38 =>
                      bn (f_M_numberOf n p38 (nI i) x23.2.2.1 s37) (fun p39 =>
                      (lt ((if p39.1 < 0 then
                      false
                    else true) : Bool) (fun x40 =>
                        gd (inb (((36 : Int32) * (nI i)) + x23.2.1) 180000) (
                          lt (sai p39.2 147 (((36 : Int32) * (nI i)) + x23.2.1) p39.1) (fun s42 =>
                          lt (x23.2.1 + (1 : Int32)) (fun v43 =>
                          j31 (x40, v43, s42)))))))))))
                  else j31 (x23.1, x23.2.1, p33.2)))
                else j31 (x23.1, x23.2.1, p28)))))
              else j22 (x23.1, x23.2.1, x23.2.2.2)))) n (true, (0 : Int32), (0 : Int32), u)) P := by
  have hnb := h.1.2.2.2.1
  have hokc : okF a.2.1.1 (dcd c) := by rw [← hc]; exact h0.2.2.1 i h0.2.2.2.2.2
  have hall := sac_all hnb hokc
  rw [← hall] at hF hG
  refine zT.cnt 140 (fun k x => x.2.2.1 = nI k ∧ ((x.1 = false ∧ (∃ m, x.2.1 = nI m ∧ m ≤ 36) ∧ EX s x.2.2.2 a ∧ bacts (sac a c 140) i Q0 [] = none) ∨ (x.1 = true ∧ ∃ Q es, x.2.1 = nI es.length ∧ bacts (sac a c k) i Q0 [] = some (Q, es) ∧ EN s x.2.2.2 a i Q ed es))) (by omega) ⟨rfl, Or.inr ⟨rfl, Q0, [], rfl, rfl, h0⟩⟩ ?_
  rintro j k ⟨_, _, _, v⟩ hk ⟨rfl, hv⟩ hj
  dsimp only at *
  rcases hv with ⟨rfl, ⟨m, rfl, hm⟩, hX, hno⟩ | ⟨rfl, Q, es, rfl, hb, hN⟩
  · refine zT.ite (fun q => hF v m hno hm hX) (fun q => ?_)
    exact zT.ie (by decide) (hF v m hno hm hX)
  obtain ⟨b1, b2, b3⟩ := bacts_le _ _ _ _ _ hb h0.2.2.2.2.2
  rw [List.length_nil, Nat.zero_add] at b3
  refine zT.ite (fun q => ?_) (fun q => ?_)
  · rw [show (140 : Int32) = nI 140 from rfl, nI_leI (by omega) (by omega)] at q
    have e : k = 140 := by omega
    subst e
    exact hG v Q es hb hN (by rw [b3]; exact sac_len hnb hokc (by omega))
  rw [show (140 : Int32) = nI 140 from rfl, nI_leI (by omega) (by omega)] at q
  have hk : k < 140 := by omega
  refine zT.it rfl (zT.gu (inb_n (by omega) (by decide)) ?_)
  obtain ⟨cl, sl', hM⟩ := hN.2.1
  obtain ⟨g1, g2, _⟩ := hM.2.1 i b2
  have hcQ : Q.2.1 i = c := b1.trans hc
  rw [hcQ] at g1 g2
  rw [al_n _ _ (by omega), g1]
  refine zT.bnT (m_stands v (by omega) g2) ?_
  rintro v2 ⟨hE1, hon⟩
  have hN1 := hN.go (hE1.mono (fun o j w => by simp at *; omega))
  have hK1 := hN1.1.mk h hon hokc
  refine zT.jnQ (fun y => (y.1 = false ∧ (∃ m, y.2.1 = nI m ∧ m ≤ 36) ∧ EX s y.2.2 a ∧ bacts (sac a c 140) i Q0 [] = none) ∨ (y.1 = true ∧ ∃ Q es, y.2.1 = nI es.length ∧ bacts (sac a c (k + 1)) i Q0 [] = some (Q, es) ∧ EN s y.2.2 a i Q ed es)) ?_ ?_
  · rintro ⟨_, _, w⟩ hw
    refine zT.ltS ?_
    rw [nI_1]
    exact hj hk _ ⟨rfl, hw⟩
  intro j31 hj31
  have skip : ∀ w, sok a c k = false → EN s w a i Q ed es → zT (j31 (true, nI es.length, w)) P := fun w hs hw => hj31 _ (Or.inr ⟨rfl, Q, es, rfl, by rw [sac_s, hs, if_neg (by decide)]; exact hb, hw⟩)
  have hact := m_isAct hK1.1.1 hnb (nI k)
  refine zT.ite (fun c1 => ?_) (fun c1 => ?_)
  · obtain ⟨k', hk', hb', ek⟩ := hact.mp c1
    have ek : k = k' := (nI_eq (by omega) (by omega)).mp ek
    subst ek
    refine zT.bnT (m_whyNot (by omega) hK1 hk hb') ?_
    rintro ⟨w, v3⟩ ⟨hw, hE2⟩
    dsimp only at *
    have hN2 := hN1.go (hE2.mono (fun o j w => by simp [p116] at *; omega))
    have hK2 := hK1.fr hE2 noM116
    refine zT.ite (fun c2 => ?_) (fun c2 => ?_)
    · have hw0 : wy (aD a) a.2.1.2.2.2.2.2 (dcd c) (fun b => decide (a.2.2.2.1.2.1 b < a.2.1.2.2.2.2.1 b)) k = 0 := wy_neg (by rw [← hw]; exact c2)
      have hsok : sok a c k = true := by
        unfold sok
        rw [decide_eq_true hb', decide_eq_true (show wy (aD a) a.2.1.2.2.2.2.2 (dcd c) (loA a) k = 0 from hw0)]; rfl
      have hsac : sac a c (k + 1) = sac a c k ++ [(k, en (aft (aD a) a.2.1.1 (dcd c) k))] := by rw [sac_s, if_pos hsok]
      have hlen : es.length < 36 := by
        have := sac_len (k := k + 1) hnb hokc (by omega)
        rw [hsac, List.length_append, List.length_singleton] at this
        omega
      refine zT.bnT (m_makes (by omega) hK2 hk hb' hw0) ?_
      rintro ⟨_, v4⟩ ⟨_, hE3, hK3⟩
      dsimp only at *
      rw [rem20 (by omega)]
      refine zT.gu (inb_n (by omega) (by decide)) ?_
      rw [ai_n _ _ (by omega), sai_n _ _ _ (by omega)]
      obtain ⟨x1, x2, x3, x4⟩ := hN2.1
      rw [(hE3.i (o := 124) rfl).trans (x3 (k % 20) (by omega))]
      refine zT.ln (fun v5 hv5 => ?_)
      have hE35 : zE pmak v3 v5 := by rw [hv5]; exact hE3.wi rfl
      have hEX5 : EX s v5 a := by
        refine ⟨x1.trans (hE35.mono (fun o j w => by simp [pex, pmak] at *; omega)), fun t ht => (hE35.i rfl).trans (x2 t ht), fun t ht => (hE35.i rfl).trans (x3 t ht), fun t ht => ?_⟩
        rw [hv5, gi_i]
        by_cases e : t = k % 20
        · rw [if_pos ⟨rfl, e⟩, e]
        · rw [if_neg (fun w => e w.2), hK3.2.2.1 t ht]
          unfold opa
          split
          · rw [ups_n _ _ e]
          · rfl
      have hok2 := hK3.2.2.2.2.2
      have hon5 : ∀ t, t < 3 → gi v5 108 t = nI (aft (aD a) a.2.1.1 (dcd c) k t) := fun t ht => by rw [hv5, gi_i, if_neg (by omega)]; exact hK3.2.2.2.2.1 t ht
      have hN5 : EN s v5 a i Q ed es := by
        obtain ⟨_, ⟨cl2, sl2, y2⟩, y3, y4, y5, y6⟩ := hN2
        exact ⟨hEX5, ⟨cl2, sl2, y2.fr hE35 (fun o j w => by simp [pmak] at *; omega)⟩, y3, fun j e hj he => (hE35.i rfl).trans (y4 j e hj he), fun e he => (hE35.i rfl).trans (y5 e he), y6⟩
      refine zT.bnE (m_stateNow hon5 (hok2.S hnb)) ?_
      have hlt2 := en_lt (hok2.S hnb)
      have hokc2 := okF_dcd hok2 hnb
      generalize hcc : en (aft (aD a) a.2.1.1 (dcd c) k) = cc at hlt2 hsac hokc2 ⊢
      obtain ⟨_, ⟨cl5, sl5, z2⟩, z3, z4, z5, z6⟩ := id hN5
      refine zT.bnT (z2.place (d := Q.2.2.2.2 i + 1) (f := nI i) (a := nI k) hn hlt2 (Or.inr ⟨i, z6, rfl, rfl⟩)) ?_
      rintro ⟨y, v6⟩ ⟨hE6, hy⟩
      dsimp only at hE6 hy ⊢
      have hX6 := hN5.1.go hE6 (fun o j w => by simp [pex, pmq] at *; omega)
      rw [show (36 : Int32) = nI 36 from rfl, nI_mulL, nI_add, sai_n _ _ _ (by omega), nI_1]
      refine zT.ln (fun x40 h40 => zT.gu (inb_n (by omega) (by decide)) (zT.ltS (zT.ltS ?_)))
      have hbk : bacts (sac a c (k + 1)) i Q0 [] = bacts [(k, cc)] i Q es := by rw [hsac, bacts_app, hb]
      cases hq : qput Q cc (nI i) (nI k) (Q.2.2.2.2 i + 1) with
      | none =>
        rw [hq] at hy
        have hy : y = -1 := hy
        rw [hy, if_pos (by decide)] at h40
        rw [h40, hy]
        refine hj31 _ (Or.inl ⟨rfl, ⟨es.length + 1, rfl, by omega⟩, ?_, ?_⟩)
        · exact hX6.go (p := fun o _ => o == 147) ((zE.refl _ _).wi rfl) (fun o j w => by simp [pex] at *; omega)
        · refine bacts_pre (k := k + 1) (by omega) ?_
          rw [hbk]
          show (match qput Q cc (nI i) (nI k) (Q.2.2.2.2 i + 1) with
            | none => none
            | some (k, Q') => bacts [] i Q' (es ++ [k])) = none
          rw [hq]
      | some kq =>
        obtain ⟨m, Q'⟩ := kq
        rw [hq] at hy
        obtain ⟨hy, hmQ, cl6, sl6, hM6⟩ := hy
        have hQ6 := hM6.2.2.2.1.2.2
        rw [hy, if_neg (nI_nneg (by omega))] at h40
        rw [h40, hy]
        obtain ⟨p1, p2, p3⟩ := qput_le hq
        have hN6 : EN s v6 a i Q' ed es := ⟨hX6, ⟨cl6, sl6, hM6⟩, qput_all (R := fun c => okF a.2.1.1 (dcd c)) hq z3 hokc2, fun j e hj he => (hE6.i rfl).trans (z4 j e hj he), fun e he => (hE6.i rfl).trans (z5 e he), by omega⟩
        refine hj31 _ (Or.inr ⟨rfl, Q', es ++ [m], by rw [List.length_append]; rfl, ?_, hN6.edge hlen⟩)
        rw [hbk]
        show (match qput Q cc (nI i) (nI k) (Q.2.2.2.2 i + 1) with
            | none => none
            | some (k, Q') => bacts [] i Q' (es ++ [k])) = some (Q', es ++ [m])
        rw [hq]
        rfl
    · refine skip v3 ?_ hN2
      unfold sok
      rw [show wy (aD a) a.2.1.2.2.2.2.2 (dcd c) (loA a) k = w from hw.symm, decide_eq_false (show ¬ w = 0 from fun e => c2 (by rw [e]; decide)), Bool.and_false]
  · refine skip v2 ?_ hN1
    unfold sok
    rw [decide_eq_false (show ¬ k % 20 < a.2.1.1 from fun w => c1 (hact.mpr ⟨k, hk, w, rfl⟩)), Bool.false_and]
end Z74
