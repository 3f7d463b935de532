-- the class, searching from one state; what it tells of it
section Z71
def pXS : Nat → Nat → Bool := fun o _ => o == 1 || (decide (200 ≤ o) && decide (o < 550))
def xPS {α : Type} (v : α) (T : Nat) (a : ZA) (s : ZSt) : α × ZSt → Prop := fun q => q.1 = v ∧ zE pXS s q.2 ∧ XX q.2 T a ∧ XS q.2
theorem MA.oS {s t : ZSt} {a : ZA} (h : MA s a) (hE : zE pXS s t) : MA t a := h.fr hE (fun o j e => by
  simp [qM, pXS] at *; omega)
theorem xo_xS {s t : ZSt} (h : zE pXo s t) : zE pXS s t := h.mono (fun o j e => by simp [pXo, pXS] at *; omega)
theorem xs_xS {s t : ZSt} (h : zE pxs s t) : zE pXS s t := h.mono (fun o j e => by simp [pxs, pXS] at *; omega)
theorem prx_xS {s t : ZSt} (h : zE prx s t) : zE pXS s t := h.mono (fun o j e => by simp [prx, pXS] at *; omega)
theorem XB.srch {s t : ZSt} {st : Nat} {a : ZA} (h : XB s st a) (hE : zE pxs s t) (hK : XK t a.2.1.1 (aD a) a.2.1.2.2.2.2.2 st) : XB t st a := by
  obtain ⟨k, b, c, d, e⟩ := h
  have hnb := k.1.2.1
  exact ⟨hK, fun i hi => (hE.i (by simp [pxs] <;> omega)).trans (b i hi), fun i hi => (hE.i (by simp [pxs] <;> omega)).trans (c i hi), (hE.l (by simp [pxs])).trans d, e⟩
theorem XX.srch {s t : ZSt} {T st : Nat} {a : ZA} (hA : okA a) (h1 : st ≤ T + 1) (h2 : XB s st a) (h3 : XO s T a) (hE : zE pxs s t) (hK : XK t a.2.1.1 (aD a) a.2.1.2.2.2.2.2 st) : XX t T a :=
  ⟨hA, ⟨st, h1, h2.srch hE hK⟩, h3.on hA (fun o j e => hE o j (by simp [qX, pxs] at *; omega))⟩
/-- what the class has found, with its edges -/
def XF (u : ZSt) (a : ZA) (Q : ZQ) (ed : Nat → List Nat) : Prop :=
  (∃ cell slot, XH u Q cell slot) ∧ (∀ k, k < Q.1 → okF a.2.1.1 (dcd (Q.2.1 k))) ∧ (∀ j, j ≤ Q.1 → gi u 268 j = nI (qof ed j)) ∧ (∀ j e, j < Q.1 → e < (ed j).length → gi u 269 (qof ed j + e) = nI ((ed j).getD e 0))
theorem XF.fr {p : Nat → Nat → Bool} {u v : ZSt} {a : ZA} {Q : ZQ} {ed : Nat → List Nat} (h : XF u a Q ed) (hE : zE p u v) (hp : ∀ o j, ((o == 202 && j == 5) || (decide (260 ≤ o) && decide (o < 270) && !(o == 264) && !(o == 265))) = true → p o j = false) : XF v a Q ed := by
  obtain ⟨⟨c, l, h1⟩, h2, h3, h4⟩ := h
  exact ⟨⟨c, l, h1.fr hE (fun o j e => hp o j (by simp at *; omega))⟩, h2, fun j hj => (hE.i (hp _ _ (by simp))).trans (h3 j hj), fun j e hj he => (hE.i (hp _ _ (by simp))).trans (h4 j e hj he)⟩
def fzP (s : ZSt) (T : Nat) (a : ZA) (B : Option (ZQ × (Nat → List Nat))) (r : Bool × ZSt) : Prop := zE pXS s r.2 ∧ XX r.2 T a ∧ XS r.2 ∧ match B with
  | none => r.1 = false
  | some (Q, ed) => r.1 = true ∧ XF r.2 a Q ed
def wal : Nat → Bool := fun _ => true
theorem x_sch {n T c : Nat} {a1 : Int32} {w : Nat → Bool} {s : ZSt} {a : ZA} {α : Type} {P : α → Prop} {k : Bool × ZSt → Option α}
    (hn : 20000 < n) (h : XX s T a) (hS : XS s) (hc : okF a.2.1.1 (dcd c)) (hc2 : c < 2 ^ 36) (hw : ∀ k, k < 7 → (w k = true ↔ (a1 = -1 ∨ nI k = a1 ∨ k = 3)))
    (hk : ∀ r, fzP s T a (sch (sucA a w) c) r → zT (k r) P) :
    zT (bn (f_S_clear n s) (fun p1 => bn (f_S_seed n (lN c) p1) (fun p2 => bn (f_S_spread n a1 p2) k))) P := by
  have hnb := h.1.2.2.2.1
  obtain ⟨hA, ⟨st, hst, hB⟩, hO⟩ := id h
  obtain ⟨Q, cell, slot, hX⟩ := hS
  refine zT.bnT (hX.clear hn) ?_
  rintro p1 ⟨hE1, c1, l1, hX1⟩
  have hB1 := hB.srch (pxq_xs hE1) (hB.1.frq hE1)
  unfold f_S_seed
  refine zT.bnT (zT.bnT (hX1.place (d := 0) (f := -1) (a := -1) hn hc2 (Or.inl ⟨rfl, rfl⟩)) (fun p hp => zT.ret (P := fun t => zE pxq p1 t ∧ ∃ cell slot, XH t (q1 c) cell slot) ?_)) ?_
  · obtain ⟨e1, e2⟩ := hp
    rw [q1_put] at e2
    exact ⟨e1, e2.2.2⟩
  rintro p2 ⟨hE2, c2, l2, hX2⟩
  have hB2 := hB1.srch (pxq_xs hE2) (hB1.1.frq hE2)
  refine zT.bnT (x_spread (w := w) hn hnb hB2 hX2 (q1_all (P := fun c => okF a.2.1.1 (dcd c)) hc) (fun c _ => suc_36 a w c) hw) ?_
  intro r hr
  refine hk r ?_
  have hE12 : zE pxs s p2 := (pxq_xs hE1).trans (pxq_xs hE2)
  show fzP s T a (bfs (sucA a w) 5001 0 (q1 c) (fun _ => [])) r
  cases hb : bfs (sucA a w) 5001 0 (q1 c) (fun _ => []) with
  | none =>
    rw [hb] at hr
    obtain ⟨r1, r2, r3, r4⟩ := hr
    exact ⟨xs_xS (hE12.trans r2), XX.srch hA hst hB hO (hE12.trans r2) r3, r4, r1⟩
  | some x =>
    obtain ⟨Q', ed⟩ := x
    rw [hb] at hr
    obtain ⟨r1, r2, r3, ⟨c3, l3, r4⟩, r5, r6, r7⟩ := hr
    exact ⟨xs_xS (hE12.trans r2), XX.srch hA hst hB hO (hE12.trans r2) r3, ⟨Q', c3, l3, r4⟩, r1, ⟨c3, l3, r4⟩, r5, r6, r7⟩
theorem x_from {n T c : Nat} {s : ZSt} {a : ZA} (hn : 20000 < n) (h : XX s T a) (hS : XS s) (hc : okF a.2.1.1 (dcd c)) (hc2 : c < 2 ^ 36) : zT (f_X_searchFrom n (lN c) s) (fzP s T a (sch (sucA a wal) c)) := by
  unfold f_X_searchFrom
  exact x_sch (w := wal) hn h hS hc hc2 (fun k hk => ⟨fun _ => Or.inl rfl, fun _ => rfl⟩) (fun r hr => zT.ret hr)
theorem okF_0 {nb : Nat} : okF nb (dcd 0) := by
  have e : ∀ t, dcd 0 t = 0 := fun t => by unfold dcd; rw [Nat.zero_shiftRight]
  exact ⟨fun t _ => by rw [e]; exact Nat.pow_pos (by decide), fun i => by rw [e, e, e]; simp⟩
theorem wtb_w {t : Nat} (ht : t < 3) : ∀ k, k < 7 → (wtb t k = true ↔ (nI t = (-1 : Int32) ∨ nI k = nI t ∨ k = 3)) := by
  intro k hk
  unfold wtb
  rw [nI_eq (by omega) (by omega)]
  have : ¬ nI t = (-1 : Int32) := nI_nm1 (by omega)
  simp [this]
theorem x_table {n T t : Nat} {s : ZSt} {a : ZA} (hn : 20000 < n) (h : XX s T a) (hS : XS s) (ht : t < 3) : zT (f_X_searchTable n (nI t) s) (fun u => ∃ b, fzP s T a (sch (sucA a (wtb t)) 0) (b, u)) := by
  unfold f_X_searchTable
  exact x_sch (w := wtb t) (c := 0) hn h hS okF_0 (by decide) (wtb_w ht) (fun r hr => zT.ret ⟨r.1, hr⟩)
-- telling
theorem XS.prw {s t : ZSt} (h : XS s) (hE : zE prx s t) : XS t := h.o (prx_xo hE)
theorem XH.prw {s t : ZSt} {Q : ZQ} {cell slot : Nat → Nat} (h : XH s Q cell slot) (hE : zE prx s t) : XH t Q cell slot := h.fr hE (fun o j e => by
  have e2 : o ≠ 212 ∧ o ≠ 1 := by simp at e; omega
  simp [prx, e2.1, e2.2])
def sReach (Q : ZQ) (a : ZA) : Int32 × ZA := (nI Q.1, putR a [nI (qun Q Q.1), nI (Q.2.2.2.2 (Q.1 - 1))])
theorem x_tellReach {n T : Nat} {s : ZSt} {a : ZA} {Q : ZQ} {cell slot : Nat → Nat} (hn : 20000 < n) (h : XX s T a) (hX : XH s Q cell slot) (h0 : 0 < Q.1) : zT (f_X_tellReach n s) (xPS (sReach Q a).1 T (sReach Q a).2 s) := by
  unfold f_X_tellReach
  refine zT.ltS ?_
  have hE1 : zE prx s (si s 1 13 0) := (zE.refl _ _).wi rfl
  have hX1 := hX.prw hE1
  refine zT.bnE (hX1.union hn) ?_
  refine zT.bnT (x_tel _ h.put0 (by simp)) ?_
  rintro u ⟨hE2, hM2⟩
  have hX2 := hX1.prw hE2
  refine zT.bnE hX2.far ?_
  rw [if_neg (by omega)]
  refine zT.bnT (x_tel _ hM2 (by simp)) ?_
  rintro v ⟨hE3, hM3⟩
  have hX3 := hX2.prw hE3
  exact zT.ret ⟨hX3.1, prx_xS (hE1.trans (hE2.trans hE3)), hM3, ⟨Q, cell, slot, hX3⟩⟩
/-- the acts by which a state came -/
def qwy (Q : ZQ) : Nat → Nat → List Int32
  | 0, _ => []
  | k + 1, i => qwy Q k (Q.2.2.1 i).toNatClampNeg ++ [Q.2.2.2.1 i]
theorem qwy_len (Q : ZQ) : ∀ k i, (qwy Q k i).length = k
  | 0, _ => rfl
  | k + 1, i => by
    show (qwy Q k (Q.2.2.1 i).toNatClampNeg ++ [Q.2.2.2.1 i]).length = _
    rw [List.length_append, qwy_len Q k]; rfl
def sWay (Q : ZQ) (i : Nat) (a : ZA) : Int32 × ZA := if i < Q.1 then (nI (Q.2.2.2.2 i), putR a ((qwy Q (Q.2.2.2.2 i) i).take 10)) else (-2, a)
/-- where the way to a state is after k steps back -/
def qbk (Q : ZQ) : Nat → Nat → Nat
  | 0, i => i
  | k + 1, i => (Q.2.2.1 (qbk Q k i)).toNatClampNeg
theorem qbk_sp {Q : ZQ} (h : qtr Q) (h5 : Q.1 ≤ 5000) {i : Nat} (hi : i < Q.1) : ∀ k, k ≤ Q.2.2.2.2 i → qbk Q k i < Q.1 ∧ Q.2.2.2.2 (qbk Q k i) + k = Q.2.2.2.2 i ∧ (k < Q.2.2.2.2 i → Q.2.2.1 (qbk Q k i) = nI (qbk Q (k + 1) i) ∧ qbk Q (k + 1) i < Q.1) := by
  have step : ∀ j, j < Q.1 → 0 < Q.2.2.2.2 j → ∃ m, m < Q.1 ∧ Q.2.2.1 j = nI m ∧ Q.2.2.2.2 j = Q.2.2.2.2 m + 1 := fun j hj h0 => by
    rcases h j hj with ⟨_, e⟩ | ⟨m, hm, e1, e2⟩
    · omega
    · exact ⟨m, by omega, e1, e2⟩
  intro k
  induction k with
  | zero =>
    intro _
    refine ⟨hi, rfl, fun h0 => ?_⟩
    obtain ⟨m, m1, m2, m3⟩ := step i hi h0
    show Q.2.2.1 i = nI (Q.2.2.1 i).toNatClampNeg ∧ (Q.2.2.1 i).toNatClampNeg < Q.1
    rw [m2, nI_clamp (by omega)]
    exact ⟨rfl, m1⟩
  | succ k ih =>
    intro hk
    obtain ⟨a1, a2, a3⟩ := ih (by omega)
    obtain ⟨b1, b2⟩ := a3 (by omega)
    obtain ⟨m, m1, m2, m3⟩ := step _ a1 (by omega)
    have em : qbk Q (k + 1) i = m := by
      show (Q.2.2.1 (qbk Q k i)).toNatClampNeg = m
      rw [m2, nI_clamp (by omega)]
    refine ⟨b2, by rw [em]; omega, fun h0 => ?_⟩
    obtain ⟨m', m1', m2', m3'⟩ := step _ b2 (by rw [em]; omega)
    show Q.2.2.1 (qbk Q (k + 1) i) = nI (Q.2.2.1 (qbk Q (k + 1) i)).toNatClampNeg ∧ (Q.2.2.1 (qbk Q (k + 1) i)).toNatClampNeg < Q.1
    rw [m2', nI_clamp (by omega)]
    exact ⟨rfl, m1'⟩
theorem qwy_at (Q : ZQ) : ∀ d i j, j < d → lF (qwy Q d i) j = Q.2.2.2.1 (qbk Q (d - 1 - j) i)
  | 0, i, j, h => absurd h (Nat.not_lt_zero _)
  | d + 1, i, j, h => by
    show lF (qwy Q d (Q.2.2.1 i).toNatClampNeg ++ [Q.2.2.2.1 i]) j = _
    have hl := qwy_len Q d (Q.2.2.1 i).toNatClampNeg
    have bk : ∀ k, qbk Q k (Q.2.2.1 i).toNatClampNeg = qbk Q (k + 1) i := by
      intro k
      induction k with
      | zero => rfl
      | succ k ih =>
        show (Q.2.2.1 (qbk Q k (Q.2.2.1 i).toNatClampNeg)).toNatClampNeg = (Q.2.2.1 (qbk Q (k + 1) i)).toNatClampNeg
        rw [ih]
    by_cases e : j = d
    · rw [lF_ge (by omega), hl, e, Nat.sub_self, show d + 1 - 1 - d = 0 by omega]
      rfl
    · rw [lF_lt (by omega), qwy_at Q d _ j (by omega), bk, show d - 1 - j + 1 = d + 1 - 1 - j by omega]
set_option maxHeartbeats 1000000 in
theorem x_tellWay {n T i : Nat} {v : Int32} {s : ZSt} {a : ZA} {Q : ZQ} {cell slot : Nat → Nat} (hn : 20000 < n) (h : XX s T a) (hX : XH s Q cell slot) (hQ : qOK Q) (hi : i ≤ Q.1) (hv : v = if i < Q.1 then nI i else -1) : zT (f_X_tellWay n v s) (xPS (sWay Q i a).1 T (sWay Q i a).2 s) := by
  obtain ⟨hA, ⟨st, hst, hB⟩, hO⟩ := id h
  obtain ⟨hq1, hq2, hq3⟩ := hQ
  unfold f_X_tellWay
  by_cases c : i < Q.1
  · have hvi : v = nI i := by rw [hv, if_pos c]
    have hr : sWay Q i a = (nI (Q.2.2.2.2 i), putR a ((qwy Q (Q.2.2.2.2 i) i).take 10)) := by unfold sWay; rw [if_pos c]
    rw [hvi, hr]
    have hd := hq3.dle c
    have hx := hX.2.1 i c
    refine zT.ie (nI_nm1 (by omega)) (zT.gu (inb_n (by omega) (by decide)) ?_)
    rw [ai_n _ _ (by omega), hx.2.2.2.2.1]
    refine zT.ltS ?_
    rw [show (10 : Int32) = nI 10 from rfl, imin_n (by omega) (by omega)]
    refine zT.ltS (zT.ln (fun v5 hv5 => ?_))
    generalize hD : Q.2.2.2.2 i = D at *
    refine zT.cnt D (fun k x => x.1 = (if k < D then nI (qbk Q k i) else x.1) ∧ x.2.1 = (if k < D then nI (D - 1 - k) else -1) ∧ zE prx s x.2.2 ∧ gi x.2.2 1 13 = nI (min D 10) ∧ ∀ j, D - k ≤ j → j < D → j < 10 → gi x.2.2 212 j = lF (qwy Q D i) j) (by omega) ⟨?_, ?_, (zE.refl _ _).wi rfl, ?_, fun j h1 h2 => by omega⟩ ?_
    · by_cases q : 0 < D
      · rw [if_pos q]; rfl
      · rw [if_neg q]
    · dsimp only
      by_cases q : 0 < D
      · rw [if_pos q, hv5, show D = (D - 1) + 1 by omega, show (nI (D - 1 + 1) - 1) = nI (D - 1) from nI_pred _, Nat.add_sub_cancel, Nat.sub_zero]
      · rw [if_neg q, hv5, show D = 0 by omega]; rfl
    · rw [gi_i, if_pos ⟨rfl, rfl⟩]
    rintro j k ⟨u, w, t⟩ hk ⟨hu, hw, hE, hr1, hr2⟩ hj
    dsimp only at *
    by_cases q : k < D
    · rw [if_pos q] at hu hw
      subst hu hw
      obtain ⟨g1, g2, g3⟩ := qbk_sp hq3 hq2 c k (by omega)
      have hx2 := (hX.prw hE).2.1 _ g1
      have ew := qwy_at Q D i (D - 1 - k) (by omega)
      rw [show D - 1 - (D - 1 - k) = k by omega] at ew
      refine zT.ie (nI_nneg (by omega)) (zT.ie (nI_nm1 (by omega)) (zT.jnQ (fun y => zE prx s y ∧ gi y 1 13 = nI (min D 10) ∧ ∀ j, D - (k + 1) ≤ j → j < D → j < 10 → gi y 212 j = lF (qwy Q D i) j) ?_ ?_))
      · rintro y ⟨z1, z2, z3⟩
        have hx3 := (hX.prw z1).2.1 _ g1
        refine zT.gu (inb_n (by omega) (by decide)) ?_
        rw [ai_n _ _ (by omega), hx3.2.2.1]
        refine zT.ltS (zT.ln (fun v13 hv13 => hj (by omega) _ ⟨?_, ?_, z1, z2, z3⟩))
        · dsimp only
          by_cases q2 : k + 1 < D
          · rw [if_pos q2]; exact (g3 (by omega)).1
          · rw [if_neg q2]
        · dsimp only
          by_cases q2 : k + 1 < D
          · rw [if_pos q2, hv13, show D - 1 - k = (D - 1 - (k + 1)) + 1 by omega, nI_m1 (by omega)]
          · rw [if_neg q2, hv13, show D - 1 - k = 0 by omega]; rfl
      · intro j14 hj14
        rw [hr1]
        refine zT.ite (fun c2 => ?_) (fun c2 => ?_)
        · rw [nI_leI (by omega) (by omega)] at c2
          refine hj14 _ ⟨hE, hr1, fun j h1 h2 h3 => ?_⟩
          exact hr2 j (by omega) h2 h3
        · rw [nI_leI (by omega) (by omega)] at c2
          refine zT.gu (inb_n (by omega) (by decide)) (zT.gu (inb_n (by omega) (by decide)) ?_)
          rw [ai_n _ _ (by omega), sai_n _ _ _ (by omega), hx2.2.2.2.1]
          refine zT.ltS (hj14 _ ⟨hE.wi rfl, hr1, fun j h1 h2 h3 => ?_⟩)
          rw [gi_i]
          by_cases e : j = D - 1 - k
          · rw [if_pos ⟨rfl, e⟩, e, ew]
          · rw [if_neg (fun w => e w.2)]
            exact hr2 j (by omega) h2 h3
    · have ek : k = D := by omega
      rw [if_neg q] at hw
      subst hw
      refine zT.it (by decide) (zT.ret ⟨rfl, prx_xS hE, ?_, ⟨Q, cell, slot, hX.prw hE⟩⟩)
      have hlen : ((qwy Q D i).take 10).length = min D 10 := by rw [List.length_take, qwy_len, Nat.min_comm]
      refine XX.rw (p := prx) hA hst hB hO hE (fun o j e1 e2 => by simp [prx] at *; omega) (hB.1.2.1.on (hE.i rfl) (fun _ => hE.i rfl) (fun _ => hE.i rfl)) (by rw [hlen]; omega) ⟨by rw [hlen]; exact hr1, fun j hj => ?_⟩
      rw [hlen] at hj
      rw [lF_take (by omega), Nat.zero_add]
      exact hr2 j (by omega) (by omega) (by omega)
  · have hvi : v = -1 := by rw [hv, if_neg c]
    have hr : sWay Q i a = (-2, a) := by unfold sWay; rw [if_neg c]
    rw [hvi, hr]
    exact zT.it rfl (zT.ret ⟨rfl, zE.refl _ _, h, ⟨Q, cell, slot, hX⟩⟩)
end Z71
