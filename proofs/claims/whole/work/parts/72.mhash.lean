-- the reference's table of what is found
section Z72
theorem lN_rem (x : Nat) {d : Nat} (hx : x < 2 ^ 62) (h0 : 0 < d) (hd : d < 2 ^ 31) : remL (lN x) (lN d) = lN (x % d) := by
  unfold remL
  have e : lN x / lN d = lN (x / d) := by
    apply Int64.toInt_inj.mp
    have hq : x / d ≤ x := Nat.div_le_self _ _
    rw [lg_ldiv_nonneg (by rw [pf_lI (by omega)]; omega) (by rw [pf_lI (by omega)]; omega), pf_lI (by omega), pf_lI (by omega), pf_lI (by omega)]
    rfl
  have hm : x / d * d ≤ x := Nat.div_mul_le_self x d
  rw [e, lN_mul, lN_sub hm]
  congr 1
  have := Nat.div_add_mod x d
  rw [Nat.mul_comm] at this
  omega
def hM (c : Nat) : Nat := (c * 31) % 16384
theorem hM_lt (c : Nat) : hM c < 16384 := Nat.mod_lt _ (by decide)
theorem hM_e {c : Nat} (hc : c < 2 ^ 36) : (remL (lN c * (31 : Int64)) (16384 : Int64)).toInt32 = nI (hM c) := by
  rw [show (31 : Int64) = lN 31 from rfl, lN_mul, show (16384 : Int64) = lN 16384 from rfl, lN_rem _ (by omega) (by decide) (by decide), lN_i]
  rfl
def cM (k : Nat) : Int32 := if k = 0 then -1 else nI (k - 1)
theorem cM_neg {k : Nat} (h : k ≤ 5000) : cM k < 0 ↔ k = 0 := by
  unfold cM
  by_cases e : k = 0
  · rw [if_pos e]; exact ⟨fun _ => e, fun _ => by decide⟩
  · rw [if_neg e]; exact ⟨fun w => absurd w (nI_nneg (by omega)), fun w => absurd w e⟩
/-- the reference's table -/
def MH (s : ZSt) (Q : ZQ) (cell slot : Nat → Nat) : Prop :=
  gi s 0 49 = nI Q.1 ∧ (∀ i, i < Q.1 → gl s 143 i = lN (Q.2.1 i) ∧ Q.2.1 i < 2 ^ 36 ∧ gi s 145 i = Q.2.2.1 i ∧ gi s 146 i = Q.2.2.2.1 i ∧ gi s 144 i = nI (Q.2.2.2.2 i)) ∧
  (∀ p, p < 16384 → gi s 148 p = cM (cell p)) ∧ HT hM cell slot Q.2.1 Q.1 ∧ qds Q
theorem MH.fr {p : Nat → Nat → Bool} {s t : ZSt} {Q : ZQ} {cell slot : Nat → Nat} (h : MH s Q cell slot) (hE : zE p s t) (hp : ∀ o j, ((o == 0 && j == 49) || (decide (143 ≤ o) && decide (o < 147)) || o == 148) = true → p o j = false) : MH t Q cell slot := by
  obtain ⟨h1, h2, h3, h4, h5⟩ := h
  have hq : ∀ o j, ((o == 0 && j == 49) || (decide (143 ≤ o) && decide (o < 147)) || o == 148) = true → gi t o j = gi s o j ∧ gl t o j = gl s o j := fun o j e => hE o j (hp o j e)
  refine ⟨(hq _ _ rfl).1.trans h1, fun i hi => ?_, fun p hp => (hq _ _ rfl).1.trans (h3 p hp), h4, h5⟩
  obtain ⟨a, b, c, d, e⟩ := h2 i hi
  exact ⟨(hq _ _ rfl).2.trans a, b, (hq _ _ rfl).1.trans c, (hq _ _ rfl).1.trans d, (hq _ _ rfl).1.trans e⟩
section
variable {s : ZSt} {Q : ZQ} {cell slot : Nat → Nat} {n c : Nat}
theorem m_slotOf (hn : 20000 < n) (hc : c < 2 ^ 36) (h : MH s Q cell slot) : zT (f_M_slotOf n (lN c) s) (fun r => ∃ k, r = nI ((hM c + k) % 16384) ∧ (∀ j, j < k → cell ((hM c + j) % 16384) ≠ 0 ∧ Q.2.1 (cell ((hM c + j) % 16384) - 1) ≠ c) ∧ (cell ((hM c + k) % 16384) ≠ 0 → Q.2.1 (cell ((hM c + k) % 16384) - 1) = c)) := by
  obtain ⟨h1, h2, h3, h4, h5⟩ := h
  have h5k := h4.2.2
  unfold f_M_slotOf
  rw [hM_e hc]
  refine zT.ltS ?_
  have hx := hM_lt c
  refine zT.cnt 16384 (fun k x => x = nI ((hM c + k) % 16384) ∧ ∀ j, j < k → cell ((hM c + j) % 16384) ≠ 0 ∧ Q.2.1 (cell ((hM c + j) % 16384) - 1) ≠ c) (by omega) ⟨by rw [Nat.add_zero, Nat.mod_eq_of_lt hx], fun j hj => absurd hj (Nat.not_lt_zero _)⟩ ?_
  rintro j k _ hk ⟨rfl, f1⟩ hj
  have hp : (hM c + k) % 16384 < 16384 := Nat.mod_lt _ (by decide)
  have hcl := (h4.1 _ hp).1
  have hk2 : k < 16384 := by
    rcases Nat.lt_or_ge k 16384 with q | q
    · exact q
    · exfalso
      have e : k = 16384 := by omega
      subst e
      exact h4.full _ (fun j hj => (f1 j hj).1)
  refine zT.gu (inb_n hp (by decide)) ?_
  rw [ai_n _ _ (by omega), h3 _ hp]
  refine zT.ite (fun c0 => ?_) (fun c0 => ?_)
  · have c0 := (cM_neg (by omega)).mp c0
    exact zT.ret ⟨k, rfl, f1, fun w => absurd c0 w⟩
  · have c0 : cell ((hM c + k) % 16384) ≠ 0 := fun w => c0 ((cM_neg (by omega)).mpr w)
    rw [show cM (cell ((hM c + k) % 16384)) = nI (cell ((hM c + k) % 16384) - 1) from by unfold cM; rw [if_neg c0]]
    refine zT.gu (inb_n (by omega) (by decide)) ?_
    obtain ⟨g1, g2, _⟩ := h2 (cell ((hM c + k) % 16384) - 1) (by omega)
    rw [al_n _ _ (by omega), g1]
    refine zT.ite (fun c1 => ?_) (fun c1 => ?_)
    · have c1 := lN_inj (by omega) (by omega) ((lg_0 _ _).mp c1)
      exact zT.ret ⟨k, rfl, f1, fun _ => c1⟩
    · have c1 : Q.2.1 (cell ((hM c + k) % 16384) - 1) ≠ c := fun w => c1 ((lg_0 _ _).mpr (by rw [w]))
      rw [nI_1, show (16384 : Int32) = nI 16384 from rfl, nI_rem (by omega) (by decide) (by decide)]
      refine zT.ltS (hj hk2 _ ⟨?_, fun j hj => ?_⟩)
      · congr 1
        omega
      · by_cases e : j = k
        · rw [e]; exact ⟨c0, c1⟩
        · exact f1 j (by omega)
end
def pmq : Nat → Nat → Bool := fun o j => (o == 0 && j == 49) || (decide (143 ≤ o) && decide (o < 147)) || o == 148
theorem plm_read (s : ZSt) (m p : Nat) (c : Int64) (f a d lv lw : Int32) :
    gi (si (si (si (si (si (sl s 143 m c) 144 m d) 145 m f) 146 m a) 148 p lv) 0 49 lw) 0 49 = lw ∧
    (∀ i, gl (si (si (si (si (si (sl s 143 m c) 144 m d) 145 m f) 146 m a) 148 p lv) 0 49 lw) 143 i = if i = m then c else gl s 143 i) ∧
    (∀ i, gi (si (si (si (si (si (sl s 143 m c) 144 m d) 145 m f) 146 m a) 148 p lv) 0 49 lw) 145 i = if i = m then f else gi s 145 i) ∧
    (∀ i, gi (si (si (si (si (si (sl s 143 m c) 144 m d) 145 m f) 146 m a) 148 p lv) 0 49 lw) 146 i = if i = m then a else gi s 146 i) ∧
    (∀ i, gi (si (si (si (si (si (sl s 143 m c) 144 m d) 145 m f) 146 m a) 148 p lv) 0 49 lw) 144 i = if i = m then d else gi s 144 i) ∧
    (∀ q, gi (si (si (si (si (si (sl s 143 m c) 144 m d) 145 m f) 146 m a) 148 p lv) 0 49 lw) 148 q = if q = p then lv else gi s 148 q) := by
  simp [gi_i, gi_l, gl_i, gl_l]
def pmP (s : ZSt) (q : Option (Nat × ZQ)) (r : Int32 × ZSt) : Prop := zE pmq s r.2 ∧ match q with
  | none => r.1 = -1
  | some (i, Q) => r.1 = nI i ∧ i < Q.1 ∧ ∃ cell slot, MH r.2 Q cell slot
theorem MH.place {s : ZSt} {Q : ZQ} {cell slot : Nat → Nat} {n c d : Nat} {f a : Int32} (hn : 20000 < n) (hc : c < 2 ^ 36) (h : MH s Q cell slot) (hd : (f = -1 ∧ d = 0) ∨ ∃ i, i < Q.1 ∧ f = nI i ∧ d = Q.2.2.2.2 i + 1) : zT (f_M_numberOf n (lN c) f a s) (pmP s (qput Q c f a d)) := by
  unfold f_M_numberOf
  refine zT.bnT (m_slotOf hn hc h) ?_
  rintro _ ⟨k, rfl, w1, w2⟩
  obtain ⟨h1, h2, h3, h4, h5⟩ := id h
  have h50 := h4.2.2
  have hp : (hM c + k) % 16384 < 16384 := Nat.mod_lt _ (by decide)
  have key1 : cell ((hM c + k) % 16384) = 0 → ∀ i, i < Q.1 → Q.2.1 i ≠ c := fun c0 => h4.miss c0 w1
  have key2 : cell ((hM c + k) % 16384) = 0 → Q.1 < 5000 → HT hM (ups cell ((hM c + k) % 16384) (Q.1 + 1)) (ups slot Q.1 ((hM c + k) % 16384)) (ups Q.2.1 Q.1 c) (Q.1 + 1) := fun c0 c1 => h4.add c1 c0 (fun j hj => (w1 j hj).1)
  generalize hpe : (hM c + k) % 16384 = p at w2 key1 key2 hp ⊢
  clear hpe w1
  obtain ⟨l1, l2⟩ := h4.1 _ hp
  refine zT.gu (inb_n hp (by decide)) ?_
  rw [ai_n _ _ (by omega), h3 _ hp]
  refine zT.ite (fun c0 => ?_) (fun c0 => ?_)
  · have c0 : cell p = 0 := (cM_neg (by omega)).mp c0
    have hmiss := key1 c0
    have hq : qat Q c = Q.1 := qat_no hmiss
    have hqp : qput Q c f a d = if Q.1 < 5000 then some (Q.1, qadd Q c f a d) else none := by unfold qput; rw [hq, if_neg (Nat.lt_irrefl _)]
    rw [h1]
    refine zT.ite (fun c1 => ?_) (fun c1 => ?_)
    · have c1 : Q.1 = 5000 := (nI_eq (b := 5000) (by omega) (by decide)).mp c1
      rw [hqp, if_neg (by omega)]
      exact zT.ret ⟨zE.refl _ _, rfl⟩
    · have c1 : Q.1 < 5000 := by
        have : ¬ Q.1 = 5000 := fun w => c1 (by rw [w]; rfl)
        omega
      rw [hqp, if_pos c1]
      have hi : inb (nI Q.1) 5000 = true := inb_n c1 (by decide)
      refine zT.gu hi ?_
      rw [sal_n _ _ _ (by omega)]
      refine zT.ln (fun s6 hs6 => ?_)
      have g6 : gi s6 0 49 = nI Q.1 := by rw [hs6]; exact h1
      refine zT.jnQ (fun y => y = nI d) ?_ ?_
      · rintro _ rfl
        rw [g6]
        refine zT.gu hi ?_
        rw [sai_n _ _ _ (by omega)]
        refine zT.ltS ?_
        rw [show gi (si s6 144 Q.1 (nI d)) 0 49 = gi s6 0 49 from rfl, g6]
        refine zT.gu hi ?_
        rw [sai_n _ _ _ (by omega)]
        refine zT.ltS ?_
        rw [show gi (si (si s6 144 Q.1 (nI d)) 145 Q.1 f) 0 49 = gi s6 0 49 from rfl, g6]
        refine zT.gu hi ?_
        rw [sai_n _ _ _ (by omega)]
        refine zT.ltS ?_
        rw [show gi (si (si (si s6 144 Q.1 (nI d)) 145 Q.1 f) 146 Q.1 a) 0 49 = gi s6 0 49 from rfl, g6, sai_n _ _ _ (by omega)]
        refine zT.ltS ?_
        rw [show gi (si (si (si (si s6 144 Q.1 (nI d)) 145 Q.1 f) 146 Q.1 a) 148 p (nI Q.1)) 0 49 = gi s6 0 49 from rfl, g6, nI_1]
        obtain ⟨z1, z2, z3, z4, z5, z6⟩ := plm_read s Q.1 p (lN c) f a (nI d) (nI Q.1) (nI (Q.1 + 1))
        refine zT.ltS (zT.ret ⟨?_, ?_, Nat.lt_succ_self _, ups cell p (Q.1 + 1), ups slot Q.1 p, ?_⟩)
        · rw [hs6]
          exact (((((zE.refl _ _).wl rfl).wi rfl).wi rfl).wi rfl).wi rfl |>.wi rfl
        · rw [ai_n _ _ (by omega), hs6, z6 p, if_pos rfl]
        · rw [hs6]
          refine ⟨z1, fun i hi => ⟨(z2 i).trans ?_, ?_, (z3 i).trans ?_, (z4 i).trans ?_, (z5 i).trans ?_⟩, fun p' hp' => (z6 p').trans ?_, key2 c0 c1, qds_add h5 hmiss⟩
          · exact pl_ups lN (fun hi' => (h2 i hi').1) hi
          · show ups Q.2.1 Q.1 c i < 2 ^ 36
            rw [ups_i]
            by_cases e : i = Q.1
            · rw [if_pos e]; exact hc
            · rw [if_neg e]; exact (h2 i (Nat.lt_of_le_of_ne (Nat.le_of_lt_succ hi) e)).2.1
          · exact pl_ups (fun x => x) (fun hi' => (h2 i hi').2.2.1) hi
          · exact pl_ups (fun x => x) (fun hi' => (h2 i hi').2.2.2.1) hi
          · exact pl_ups nI (fun hi' => (h2 i hi').2.2.2.2) hi
          · rw [ups_i]
            by_cases e : p' = p
            · rw [if_pos e, if_pos e]
              unfold cM
              rw [if_neg (by omega), Nat.add_sub_cancel]
            · rw [if_neg e, if_neg e]; exact h3 p' hp'
      · intro j16 hj16
        rcases hd with ⟨e1, e2⟩ | ⟨i, hi2, e1, e2⟩
        · refine zT.ie (by rw [e1]; decide) (hj16 _ (by rw [e2]; rfl))
        · refine zT.it (by rw [e1]; exact nI_pos' (by omega)) (zT.gu (by rw [e1]; exact inb_n (by omega) (by decide)) (hj16 _ ?_))
          rw [e1, ai_n _ _ (by omega), hs6, gi_l, (h2 i hi2).2.2.2.2, nI_1, ← e2]
  · have c0 : cell p ≠ 0 := fun w => c0 ((cM_neg (by omega)).mpr w)
    have e := w2 c0
    have hq : qat Q c = cell p - 1 := by
      have := qat_in h5 (i := cell p - 1) (by omega)
      rw [e] at this
      exact this
    have hqp : qput Q c f a d = some (cell p - 1, Q) := by unfold qput; rw [hq, if_pos (by omega)]
    rw [hqp]
    refine zT.ret ⟨zE.refl _ _, ?_, by omega, cell, slot, h⟩
    show cM (cell p) = _
    unfold cM
    rw [if_neg c0]
end Z72
