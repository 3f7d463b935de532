-- keeps in the reference
section Z89
def gx (a : ZA) (t : Nat) (e : Nat → Nat) (x : Nat) : Nat → Nat
  | 0 => e x
  | k + 1 => if nxk a t x k = true then gx a t e x k ||| e (tgx a t x k) else gx a t e x k
theorem gx_s (a : ZA) (t : Nat) (e : Nat → Nat) (x k : Nat) : gx a t e x (k + 1) = if nxk a t x k = true then gx a t e x k ||| e (tgx a t x k) else gx a t e x k := rfl
theorem gx_lt {a : ZA} {t x : Nat} {e : Nat → Nat} (hx : x < 2 ^ a.2.1.1) (he : ∀ y, y < 2 ^ a.2.1.1 → e y < 4096) : ∀ k, k ≤ 24 → gx a t e x k < 4096 := by
  intro k
  induction k with
  | zero => intro _; exact he x hx
  | succ k ih =>
    intro hk
    rw [gx_s]
    split
    · rename_i q
      exact or_lt (nb := 12) (ih (by omega)) (he _ (tgx_lt hx (by omega) q))
    · exact ih (by omega)
theorem gx_t {a : ZA} {t x i : Nat} {e : Nat → Nat} : ∀ k, (gx a t e x k).testBit i = true ↔ (e x).testBit i = true ∨ ∃ m, m < k ∧ nxk a t x m = true ∧ (e (tgx a t x m)).testBit i = true := by
  intro k
  induction k with
  | zero => exact ⟨fun h => Or.inl h, fun h => h.elim id (fun ⟨m, hm, _⟩ => absurd hm (Nat.not_lt_zero _))⟩
  | succ k ih =>
    rw [gx_s]
    by_cases q : nxk a t x k = true
    · rw [if_pos q, Nat.testBit_or, Bool.or_eq_true, ih]
      constructor
      · rintro ((h | ⟨m, h1, h2⟩) | h)
        · exact Or.inl h
        · exact Or.inr ⟨m, by omega, h2⟩
        · exact Or.inr ⟨k, by omega, q, h⟩
      · rintro (h | ⟨m, h1, h2, h3⟩)
        · exact Or.inl (Or.inl h)
        · by_cases e : m = k
          · subst e; exact Or.inr h3
          · exact Or.inl (Or.inr ⟨m, by omega, h2, h3⟩)
    · rw [if_neg q, ih]
      constructor
      · rintro (h | ⟨m, h1, h2⟩)
        · exact Or.inl h
        · exact Or.inr ⟨m, by omega, h2⟩
      · rintro (h | ⟨m, h1, h2, h3⟩)
        · exact Or.inl h
        · by_cases e : m = k
          · subst e; exact absurd h2 q
          · exact Or.inr ⟨m, by omega, h2, h3⟩
def evS (a : ZA) (t : Nat) (e : Nat → Nat) : Prop := ∀ x, x < 2 ^ a.2.1.1 → (∀ i, x.testBit i = true → (e x).testBit i = true) ∧ ∀ i, (e x).testBit i = true → evP a t x i
def evC (a : ZA) (t : Nat) (e : Nat → Nat) (x : Nat) : Prop := ∀ k, k < 24 → nxk a t x k = true → ∀ i, (e (tgx a t x k)).testBit i = true → (e x).testBit i = true
section
variable {a : ZA} {t x : Nat} {e : Nat → Nat}
theorem slt_has {k : Nat} (h : nxk a t x k = true) : ∀ m, k < m → (acs t k, oc t (tgx a t x k)) ∈ slt a t x m := by
  intro m
  induction m with
  | zero => intro h; exact absurd h (Nat.not_lt_zero _)
  | succ m ih =>
    intro hk
    rw [slt_s]
    by_cases e : k = m
    · subst e
      rw [if_pos h]
      exact List.mem_append_right _ (List.mem_singleton.mpr rfl)
    · split
      · exact List.mem_append_left _ (ih (by omega))
      · exact ih (by omega)
theorem slt_in {p : Nat × Nat} : ∀ m, p ∈ slt a t x m → ∃ k, k < m ∧ nxk a t x k = true ∧ p.2 = oc t (tgx a t x k) := by
  intro m
  induction m with
  | zero => intro hp; exact absurd hp (by simp [slt])
  | succ m ih =>
    intro hp
    rw [slt_s] at hp
    by_cases q : nxk a t x m = true
    · rw [if_pos q] at hp
      rcases List.mem_append.mp hp with h | h
      · obtain ⟨k, k1, k2⟩ := ih h
        exact ⟨k, by omega, k2⟩
      · rw [List.mem_singleton.mp h]
        exact ⟨m, Nat.lt_succ_self _, q, rfl⟩
    · rw [if_neg q] at hp
      obtain ⟨k, k1, k2⟩ := ih hp
      exact ⟨k, by omega, k2⟩
theorem evS_go (ht : t < 3) (hnb : a.2.1.1 ≤ 12) (h : evS a t e) (hx : x < 2 ^ a.2.1.1) : evS a t (ups e x (gx a t e x 24)) := by
  intro y hy
  rw [ups_i]
  by_cases q : y = x
  · rw [if_pos q]
    subst q
    refine ⟨fun i hi => (gx_t 24).mpr (Or.inl ((h y hy).1 i hi)), fun i hi => ?_⟩
    rcases (gx_t 24).mp hi with h1 | ⟨m, m1, m2, m3⟩
    · exact (h y hy).2 i h1
    · obtain ⟨c, c1, c2⟩ := (h _ (tgx_lt hy m1 m2)).2 i m3
      have hm := slt_has m2 24 m1
      rw [slt_all ht hnb hy] at hm
      exact ⟨c, rea.trans (rea.step (rea.refl _ _) hm) c1, c2⟩
  · rw [if_neg q]
    exact h y hy
theorem evS_end (ht : t < 3) (hnb : a.2.1.1 ≤ 12) (h : evS a t e) (hc : ∀ x, x < 2 ^ a.2.1.1 → evC a t e x) (hx : x < 2 ^ a.2.1.1) : e x = evr a t x := by
  have h12 := pw_12 hnb
  refine evr_eq ht hnb hx (h x hx).2 ?_
  rintro i ⟨c, c1, c2⟩
  have key : ∃ y, y < 2 ^ a.2.1.1 ∧ c = oc t y ∧ ∀ i, (e y).testBit i = true → (e x).testBit i = true := by
    refine c1.ind (P := fun c => ∃ y, y < 2 ^ a.2.1.1 ∧ c = oc t y ∧ ∀ i, (e y).testBit i = true → (e x).testBit i = true) ⟨x, hx, rfl, fun i h => h⟩ ?_
    rintro _ b z ⟨y, y1, rfl, y3⟩ hm
    rw [← slt_all ht hnb y1] at hm
    obtain ⟨k, k1, k2, k3⟩ := slt_in 24 hm
    exact ⟨_, tgx_lt y1 k1 k2, k3, fun i hi => y3 i (hc y y1 k k1 k2 i hi)⟩
  obtain ⟨y, y1, rfl, y3⟩ := key
  rw [oc_any ht (by omega)] at c2
  exact y3 i ((h y y1).1 i c2)
end
def p142 : Nat → Nat → Bool := fun o _ => o == 142
theorem p142_mo {s t : ZSt} (h : zE p142 s t) : zE pMo s t := h.mono (fun o j e => by simp [pMo, p142] at *; omega)
theorem MA.s142 {s t : ZSt} {a : ZA} (h : MA s a) (hE : zE p142 s t) : MA t a := h.fr hE (fun o j e => by simp [qM, p142] at *; omega)
set_option maxHeartbeats 2000000 in
theorem m_everAll {n t : Nat} {s : ZSt} {a : ZA} (hn : 70000 < n) (h : MA s a) (ht : t < 3) (hLY : LY s a t) : zT (f_M_everAll n s) (fun u => zE p142 s u ∧ cells u 142 (2 ^ a.2.1.1) (evr a t)) := by
  have hnb := h.1.2.2.2.1
  have h12 := pw_12 hnb
  have hp : 0 < 2 ^ a.2.1.1 := Nat.pow_pos (by decide)
  unfold f_M_everAll
  refine zT.cnt (2 ^ a.2.1.1) (fun x z => z.1 = nI x ∧ zE p142 s z.2 ∧ ∀ x', x' < x → gi z.2 142 x' = nI x') (by omega) ⟨rfl, zE.refl _ _, fun x' hx => absurd hx (Nat.not_lt_zero _)⟩ ?_
  rintro j2 x ⟨_, u⟩ hx ⟨rfl, hE, hl⟩ hj2
  dsimp only at *
  rw [(h.s142 hE).2.1.1.1, shI_n (by omega)]
  refine zT.ite (fun c => ?_) (fun c => ?_)
  rotate_left
  · rw [nI_leI (by omega) (by omega)] at c
    refine zT.gu (inb_n (by omega) (by decide)) ?_
    rw [sai_n _ _ _ (by omega), nI_1]
    refine zT.ltS (zT.ltS (hj2 (by omega) _ ⟨rfl, hE.wi rfl, fun x' hx' => ?_⟩))
    dsimp only
    rw [gi_i]
    by_cases e : x' = x
    · rw [if_pos ⟨rfl, e⟩, e]
    · rw [if_neg (fun w => e w.2)]; exact hl x' (by omega)
  rw [nI_leI (by omega) (by omega)] at c
  have e : x = 2 ^ a.2.1.1 := by omega
  subst e
  clear hj2 c hx
  refine zT.cnt 50000 (fun k z => zE p142 s z.2 ∧ ∃ e, cells z.2 142 (2 ^ a.2.1.1) e ∧ evS a t e ∧ ((z.1 = 0 ∧ ∀ x, x < 2 ^ a.2.1.1 → evC a t e x) ∨ (z.1 = 1 ∧ k ≤ gms e (2 ^ a.2.1.1)))) (by omega) ⟨hE, fun x => x, fun x hx => ⟨hl x hx, by dsimp only; omega⟩, fun x hx => ⟨fun i h => h, fun i hi => ⟨oc t x, rea.refl _ _, by rw [oc_any ht (by omega)]; exact hi⟩⟩, Or.inr ⟨rfl, Nat.zero_le _⟩⟩ ?_
  rintro j5 k ⟨m, v⟩ hk ⟨hE2, e, hce, hS, hm⟩ hj5
  dsimp only at *
  rcases hm with ⟨rfl, hcl⟩ | ⟨rfl, hms⟩
  · refine zT.it rfl (zT.ret ⟨hE2, fun x hx => ?_⟩)
    rw [← evS_end ht hnb hS hcl hx]
    exact hce x hx
  refine zT.ie (by decide) ?_
  have hk2 := gms_le e (2 ^ a.2.1.1)
  refine zT.cnt (2 ^ a.2.1.1) (fun x z => z.2.1 = nI x ∧ zE p142 s z.2.2 ∧ ∃ e', cells z.2.2 142 (2 ^ a.2.1.1) e' ∧ evS a t e' ∧ ((z.1 = 0 ∧ ∀ x', x' < x → evC a t e' x') ∨ z.1 = 1) ∧ (z.1 = 1 → gms e (2 ^ a.2.1.1) < gms e' (2 ^ a.2.1.1)) ∧ (z.1 = 0 → e' = e)) (by omega) ⟨rfl, hE2, e, hce, hS, Or.inl ⟨rfl, fun x' hx' => absurd hx' (Nat.not_lt_zero _)⟩, fun w => absurd (show (0 : Int32) = 1 from w) (by decide), fun _ => rfl⟩ ?_
  rintro j8 x ⟨mo, _, w⟩ hx ⟨rfl, hE3, e', hce', hS', hmo, hg1, hg0⟩ hj8
  dsimp only at *
  have hM3 := h.s142 hE3
  rw [hM3.2.1.1.1, shI_n (by omega)]
  refine zT.ite (fun c => ?_) (fun c => ?_)
  · rw [nI_leI (by omega) (by omega)] at c
    have ex : x = 2 ^ a.2.1.1 := by omega
    subst ex
    refine hj5 (by omega) _ ⟨hE3, e', hce', hS', ?_⟩
    dsimp only
    rcases hmo with ⟨h0, hcl⟩ | h1
    · exact Or.inl ⟨h0, hcl⟩
    · have := hg1 h1
      exact Or.inr ⟨h1, by omega⟩
  rw [nI_leI (by omega) (by omega)] at c
  have hxn : x < 2 ^ a.2.1.1 := by omega
  refine zT.gu (inb_n (by omega) (by decide)) ?_
  rw [ai_n _ _ (by omega), (hce' x hxn).1]
  refine zT.ltS ?_
  have hel : ∀ y, y < 2 ^ a.2.1.1 → e' y < 4096 := fun y hy => (hce' y hy).2
  refine zT.cnt 24 (fun k z => z.1 = nI (gx a t e' x k) ∧ z.2 = nI k) (by omega) ⟨rfl, rfl⟩ ?_
  rintro j13 k2 ⟨_, _⟩ hk2' ⟨rfl, rfl⟩ hj13
  dsimp only at *
  have hgl := gx_lt (t := t) hxn hel k2 (by omega)
  refine zT.ite (fun c2 => ?_) (fun c2 => ?_)
  · rw [show (24 : Int32) = nI 24 from rfl, nI_leI (by omega) (by omega)] at c2
    have ek : k2 = 24 := by omega
    subst ek
    have hS'' := evS_go ht hnb hS' hxn
    have hmono : ∀ i, (e' x).testBit i = true → (gx a t e' x 24).testBit i = true := fun i hi => (gx_t 24).mpr (Or.inl hi)
    refine zT.jnQ (fun y => y = if mo = 0 ∧ gx a t e' x 24 = e' x then 0 else 1) ?_ ?_
    · rintro y hy
      rw [sai_n _ _ _ (by omega), nI_1]
      refine zT.ltS (zT.ltS (hj8 (by omega) _ ⟨rfl, hE3.wi rfl, ups e' x (gx a t e' x 24), fun j hj => ?_, hS'', ?_, ?_, ?_⟩))
      · dsimp only
        rw [gi_i, ups_i]
        by_cases e3 : j = x
        · rw [if_pos ⟨rfl, e3⟩, if_pos e3]
          exact ⟨rfl, hgl⟩
        · rw [if_neg (fun w => e3 w.2), if_neg e3]
          exact hce' j hj
      · dsimp only
        by_cases q : mo = 0 ∧ gx a t e' x 24 = e' x
        · rw [if_pos q] at hy
          refine Or.inl ⟨hy, fun x' hx' => ?_⟩
          rw [q.2, ups_same]
          by_cases e3 : x' = x
          · subst e3
            intro k k1 k2 i hi
            rw [← q.2]
            exact (gx_t 24).mpr (Or.inr ⟨k, k1, k2, hi⟩)
          · rcases hmo with ⟨_, hcl⟩ | h1
            · exact hcl x' (by omega)
            · rw [q.1] at h1; exact absurd h1 (by decide)
        · rw [if_neg q] at hy
          exact Or.inr hy
      · dsimp only
        intro h1
        have hlt'' : ∀ i, i < 2 ^ a.2.1.1 → ups e' x (gx a t e' x 24) i < 4096 := fun i hi => by
          rw [ups_i]; split
          · exact hgl
          · exact hel i hi
        have hsub : ∀ i b, i < 2 ^ a.2.1.1 → (e' i).testBit b = true → (ups e' x (gx a t e' x 24) i).testBit b = true := fun i b hi hb => by
          rw [ups_i]
          by_cases e3 : i = x
          · rw [if_pos e3]; subst e3; exact hmono b hb
          · rw [if_neg e3]; exact hb
        by_cases q : gx a t e' x 24 = e' x
        · have hmo1 : mo = 1 := by
            rcases hmo with ⟨h0, _⟩ | h1'
            · rw [if_pos ⟨h0, q⟩] at hy
              rw [hy] at h1; exact absurd h1 (by decide)
            · exact h1'
          rw [q, ups_same]
          exact hg1 hmo1
        · have hlt := gms_lt (2 ^ a.2.1.1) hlt'' hsub ⟨x, hxn, by rw [ups_s]; exact fun w => q w.symm⟩
          rcases hmo with ⟨h0, _⟩ | h1'
          · rw [← hg0 h0]; exact hlt
          · have := hg1 h1'
            omega
      · dsimp only
        intro h0
        by_cases q : mo = 0 ∧ gx a t e' x 24 = e' x
        · rw [q.2, ups_same]
          exact hg0 q.1
        · rw [if_neg q] at hy
          rw [hy] at h0; exact absurd h0 (by decide)
    · intro j18 hj18
      refine zT.jnQ (fun _ => ¬ (mo = 0 ∧ gx a t e' x 24 = e' x)) ?_ ?_
      · rintro _ hx
        exact hj18 _ (by rw [if_neg hx])
      · intro j20 hj20
        refine zT.ite (fun c4 => ?_) (fun c4 => hj20 _ (fun w => c4 w.1))
        refine zT.ite (fun c5 => ?_) (fun c5 => hj20 _ (fun w => c5 (by rw [w.2])))
        have c5 := (nI_eq (by omega) (by have := hel x hxn; omega)).mp c5
        exact hj18 _ (by rw [if_pos ⟨c4, c5⟩])
  · rw [show (24 : Int32) = nI 24 from rfl, nI_leI (by omega) (by omega)] at c2
    refine zT.jnQ (fun y => y = nxt a t x k2) ?_ ?_
    · rintro _ rfl
      refine zT.jnQ (fun y => y = nI (if nxk a t x k2 = true then e' (tgx a t x k2) else 0)) ?_ ?_
      · rintro _ rfl
        rw [nI_or, nI_1]
        refine zT.ltS (zT.ltS (hj13 (by omega) _ ⟨?_, rfl⟩))
        dsimp only
        rw [gx_s]
        by_cases q : nxk a t x k2 = true
        · rw [if_pos q, if_pos q]
        · rw [if_neg q, if_neg q, Nat.or_zero]
      · intro j27 hj27
        unfold nxt
        by_cases q : nxk a t x k2 = true
        · rw [if_pos q] at hj27 ⊢
          have hyl := tgx_lt hxn (show k2 < 24 by omega) q
          refine zT.ie (nI_nneg (by omega)) (zT.gu (inb_n (by omega) (by decide)) (hj27 _ ?_))
          rw [ai_n _ _ (by omega), (hce' _ hyl).1]
        · rw [if_neg q] at hj27 ⊢
          exact zT.it (by decide) (hj27 _ rfl)
    · intro j30 hj30
      rw [show (12 : Int32) = nI 12 from rfl, nI_rem (by omega) (by decide) (by decide)]
      refine zT.ite (fun c3 => ?_) (fun c3 => ?_)
      · rw [nI_leI (by omega) (by omega)] at c3
        refine hj30 _ ?_
        unfold nxt nxk
        rw [decide_eq_false (show ¬ k2 % 12 < a.2.1.1 by omega), Bool.false_and, if_neg (by decide)]
      · rw [nI_leI (by omega) (by omega)] at c3
        unfold f_M_nextOf
        rw [show (24 : Int32) = nI 24 from rfl, nI_mulL, nI_add]
        refine zT.bnE (a := nxt a t x k2) ?_ (hj30 _ rfl)
        apply zT.eq
        refine zT.gu (inb_n (by omega) (by decide)) (zT.ret ?_)
        rw [ai_n _ _ (by omega)]
        exact (hLY.fr hE3 (fun j => rfl)) x k2 hxn (by omega) (by omega)
set_option maxHeartbeats 1000000 in
theorem m_keeps {n : Nat} {s : ZSt} {a : ZA} (x y : Int32) (hn : 70000 < n) (h : MA s a) : zT (f_M_keeps n x y s) (mP (sKeeps x y a).1 (sKeeps x y a).2 s) := by
  have hnb := h.1.2.2.2.1
  have h12 := pw_12 hnb
  have hp : 0 < 2 ^ a.2.1.1 := Nat.pow_pos (by decide)
  generalize hr : sKeeps x y a = r
  unfold sKeeps at hr
  unfold f_M_keeps
  refine zT.ln (fun s1 hs1 => ?_)
  obtain ⟨hz, hE0, h00⟩ := mz h hs1
  clear hs1
  rw [inb_isTab, inb_areBooks hz.2.1.1.1 hnb]
  refine zT.ite (fun c => ?_) (fun c => ?_)
  rotate_left
  · rw [if_neg (fun w => c w.1)] at hr
    subst hr
    exact zT.ret ⟨rfl, hE0, hz⟩
  refine zT.ite (fun c2 => ?_) (fun c2 => ?_)
  rotate_left
  · rw [if_neg (fun w => c2 w.2)] at hr
    subst hr
    exact zT.ret ⟨rfl, hE0, hz⟩
  rw [if_pos ⟨c, c2⟩] at hr
  obtain ⟨t, ht, rfl⟩ := (inb_iff (by omega)).mp c
  obtain ⟨Y, hY, rfl⟩ := (inb_iff (by omega)).mp c2
  rw [nI_clamp (by omega), nI_clamp (by omega)] at hr
  refine zT.bnT (m_laysOut (by omega) hz ht) ?_
  rintro u ⟨hE, hL⟩
  have hM := hz.sly hE
  refine zT.bnT (m_everAll hn hM ht hL) ?_
  rintro v ⟨hE2, hcv⟩
  have hMv := hM.s142 hE2
  have hEv : zE pMo s v := hE0.trans ((ply_mo hE).trans (p142_mo hE2))
  refine zT.cnt (2 ^ a.2.1.1) (fun k z => z.1 = oI (kps a t Y k) ∧ z.2.1 = nI k ∧ zE p116 v z.2.2) (by omega) ⟨rfl, rfl, zE.refl _ _⟩ ?_
  rintro j7 k ⟨_, _, w⟩ hk ⟨rfl, rfl, hEw⟩ hj7
  dsimp only at *
  have hMw := hMv.s116 hEw
  rw [hMw.2.1.1.1, shI_n (by omega)]
  refine zT.ite (fun c3 => ?_) (fun c3 => ?_)
  · rw [nI_leI (by omega) (by omega)] at c3
    have e : k = 2 ^ a.2.1.1 := by omega
    subst e
    cases hq : kps a t Y (2 ^ a.2.1.1) with
    | none =>
      rw [hq] at hr
      subst hr
      exact zT.ie (show ¬ 0 ≤ oI none by decide) (zT.ret ⟨rfl, hEv.trans (p116_mo hEw), hMw⟩)
    | some b =>
      have hbl := kps_lt a t Y _ b hq
      rw [hq] at hr
      subst hr
      refine zT.it (show 0 ≤ nI b from nI_pos' (by omega)) (zT.ltS ?_)
      refine zT.bnT (m_ent _ hMw.put0 (by simp)) ?_
      rintro z ⟨hE3, hM3⟩
      exact zT.ret ⟨bc_n b (by omega), hEv.trans ((p116_mo hEw).trans (prm_mo (zE.trans ((zE.refl _ _).wi rfl) hE3))), hM3⟩
  rw [nI_leI (by omega) (by omega)] at c3
  have hkn : k < 2 ^ a.2.1.1 := by omega
  have hpk := pcn_le k
  rw [bc_n _ (show k < 4096 by omega)]
  refine zT.ltS (zT.gu (inb_n ht (by decide)) (zT.jnQ (fun z => z.1 = oI (kps a t Y (k + 1)) ∧ zE p116 v z.2) ?_ ?_))
  · rintro ⟨_, z⟩ ⟨rfl, q1⟩
    rw [nI_1]
    exact zT.ltS (hj7 (by omega) _ ⟨rfl, rfl, q1⟩)
  · intro j16 hj16
    rw [kps_s] at hj16
    have hrm := hMw.2.1.2.2.2.1 t ht
    rw [ai_n _ _ (by omega), hrm.1]
    have no : ∀ z, kpt a t Y k (evr a t) (kps a t Y k) = false → zE p116 v z → zT (j16 (oI (kps a t Y k), z)) (mP r.1 r.2 s) := fun z q q1 => hj16 _ ⟨by dsimp only; rw [q, if_neg (by decide)], q1⟩
    refine zT.ite (fun c4 => ?_) (fun c4 => ?_)
    · rw [nI_ltI (by omega) (by omega)] at c4
      refine no _ ?_ hEw
      unfold kpt
      rw [decide_eq_false (show ¬ pcn k ≤ a.2.1.2.2.2.2.2 t by omega), Bool.false_and]
    rw [nI_ltI (by omega) (by omega)] at c4
    have c4 : pcn k ≤ a.2.1.2.2.2.2.2 t := by omega
    refine zT.jnQ (fun _ => klt k (kps a t Y k) = true) ?_ ?_
    · rintro _ hlt
      refine zT.bnT (m_settled (by omega) hMw.2.1.1 hkn) ?_
      rintro ⟨_, z⟩ ⟨rfl, hE3⟩
      dsimp only at *
      have hstl : stt (aD a) a.2.1.1 t k < 2 ^ a.2.1.1 := stt_lt hkn
      have hEz := hEw.trans hE3
      obtain ⟨g1, g2⟩ := hcv _ hstl
      have hle := ndf_le Y (evr a t (stt (aD a) a.2.1.1 t k))
      rw [show sto (fun x => mmk (dD a.2.1 a.2.2.1 a.2.2.2.1) t x a.2.1.1) k = stt (aD a) a.2.1.1 t k from rfl]
      refine zT.gu (inb_n (by omega) (by decide)) ?_
      rw [ai_n _ _ (by omega), hEz.i (show p116 142 _ = false by simp [p116]), g1, nI_andn]
      have hkpt : kpt a t Y k (evr a t) (kps a t Y k) = decide (ndf Y (evr a t (stt (aD a) a.2.1.1 t k)) = 0) := by
        unfold kpt
        rw [hlt, decide_eq_true c4]
        rfl
      refine zT.ite (fun c5 => ?_) (fun c5 => ?_)
      · have c5 := (nI_eq (b := 0) (by omega) (by decide)).mp c5
        refine hj16 _ ⟨?_, hEz⟩
        dsimp only
        rw [hkpt, if_pos (decide_eq_true c5)]
        rfl
      · exact no _ (by rw [hkpt]; exact decide_eq_false (fun w => c5 (by rw [w]; rfl))) hEz
    · intro j22 hj22
      cases hq : kps a t Y k with
      | none =>
        rw [hq] at hj22
        exact zT.it (show oI none < 0 by decide) (hj22 () rfl)
      | some b =>
        have hbl := kps_lt a t Y _ b hq
        have hpb := pcn_le b
        refine zT.ie (show ¬ nI b < 0 from nI_nneg (by omega)) ?_
        show zT (if f_J_bitCount (nI b) ≤ nI (pcn k) then j16 (nI b, w) else j22 ()) _
        rw [bc_n b (by omega)]
        refine zT.ite (fun c5 => ?_) (fun c5 => ?_)
        · rw [nI_leI (by omega) (by omega)] at c5
          have := no w (by
            unfold kpt
            rw [hq, show klt k (some b) = false from decide_eq_false (show ¬ pcn k < pcn b by omega), Bool.false_and, Bool.and_false]) hEw
          rw [hq] at this
          exact this
        · rw [nI_leI (by omega) (by omega)] at c5
          rw [hq] at hj22
          exact hj22 () (decide_eq_true (show pcn k < pcn b by omega))
end Z89
