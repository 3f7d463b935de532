-- the reference's parser does as the grammar says
section Z93
def pmp (p : Nat) : Nat → Nat → Bool := fun o j => (o == 0 && (j == 19 || j == 21)) || (o == 115 && j == p) || (o == 114 && decide (64 * p ≤ j) && decide (j < 64 * p + 64))
def PM (tx : Nat → Int32) (to p : Nat) (s : ZSt) (b : Nat) (ms : List Int32) : Prop :=
  gi s 0 19 = nI b ∧ gi s 0 20 = nI to ∧ (∀ k, k < to → gi s 117 k = tx k) ∧ gi s 0 22 = nI p ∧ gi s 115 p = nI ms.length ∧ (∀ k, k < ms.length → gi s 114 (64 * p + k) = lF ms k) ∧ (p = 25 ∨ p = 26)
def mrP (tx : Nat → Int32) (to p nest : Nat) (s : ZSt) (g : PR) (ms : List Int32) : Bool × ZSt → Prop := fun r => r.1 = g.1 ∧ zE (pmp p) s r.2 ∧ PM tx to p r.2 g.2.1 (ms ++ g.2.2) ∧ (g.1 = true → gi r.2 0 21 = nI nest)
def SM (tx : Nat → Int32) (to p nest : Nat) (F : ZSt → Option (Bool × ZSt)) (G : Nat → PR) : Prop := ∀ b ms s, PM tx to p s b ms → gi s 0 21 = nI nest → b ≤ to → ms.length ≤ b → zT (F s) (mrP tx to p nest s (G b) ms)
theorem ztl_e : ∀ i, i < 6 → z_tl.getD i 0 = (z_tb.getD i []).length ∧ (z_tb.getD i []).length ≤ 15 := by decide +kernel
theorem in4857 (v : Int32) : f_M_in v.toInt64 (48 : Int64) (57 : Int64) = decide (48 ≤ v ∧ v ≤ 57) := in_i v 48 57
section
variable {tx : Nat → Int32} {to p nest n : Nat} {s : ZSt} {b : Nat} {ms : List Int32}
theorem PM.go (h : PM tx to p s b ms) (c : Nat) : PM tx to p (si s 0 19 (nI c)) c ms := by
  obtain ⟨h1, h2, h3, h4, h5, h6, h7⟩ := h
  refine ⟨by rw [gi_i, if_pos ⟨rfl, rfl⟩], by rw [gi_i, if_neg (by omega)]; exact h2, fun k hk => by rw [gi_i, if_neg (by omega)]; exact h3 k hk, by rw [gi_i, if_neg (by omega)]; exact h4, by rw [gi_i, if_neg (by omega)]; exact h5, fun k hk => by rw [gi_i, if_neg (by omega)]; exact h6 k hk, h7⟩
theorem PM.ne (h : PM tx to p s b ms) (v : Int32) : PM tx to p (si s 0 21 v) b ms := by
  obtain ⟨h1, h2, h3, h4, h5, h6, h7⟩ := h
  refine ⟨by rw [gi_i, if_neg (by omega)]; exact h1, by rw [gi_i, if_neg (by omega)]; exact h2, fun k hk => by rw [gi_i, if_neg (by omega)]; exact h3 k hk, by rw [gi_i, if_neg (by omega)]; exact h4, by rw [gi_i, if_neg (by omega)]; exact h5, fun k hk => by rw [gi_i, if_neg (by omega)]; exact h6 k hk, h7⟩
theorem PM.goE (s : ZSt) (c : Nat) : zE (pmp p) s (si s 0 19 (nI c)) := (zE.refl _ _).wi rfl
theorem PM.neE (s : ZSt) (v : Int32) : zE (pmp p) s (si s 0 21 v) := (zE.refl _ _).wi rfl
theorem m_marks (h : PM tx to p s b ms) (hl : ms.length < 60) (m : Int32) : zT (f_M_marks m s) (fun t => zE (pmp p) s t ∧ PM tx to p t b (ms ++ [m]) ∧ gi t 0 21 = gi s 0 21) := by
  obtain ⟨h1, h2, h3, h4, h5, h6, h7⟩ := h
  unfold f_M_marks
  rw [h4]
  refine zT.gu (inb_n (by omega) (by decide)) ?_
  rw [ai_n _ _ (by omega), h5, show (64 : Int32) = nI 64 from rfl, nI_mulL, nI_add]
  refine zT.gu (inb_n (by omega) (by decide)) ?_
  rw [sai_n _ _ _ (by omega)]
  refine zT.ltS ?_
  rw [gi_i, if_neg (by omega), h4]
  refine zT.gu (inb_n (by omega) (by decide)) ?_
  rw [ai_n _ _ (by omega), sai_n _ _ _ (by omega), gi_i, if_neg (by omega), h5, nI_1]
  have g : ∀ q j, ¬ (q = 115 ∧ j = p) → ¬ (q = 114 ∧ j = 64 * p + ms.length) → gi (si (si s 114 (64 * p + ms.length) m) 115 p (nI (ms.length + 1))) q j = gi s q j := fun q j e1 e2 => by
    rw [gi_i, if_neg e1, gi_i, if_neg e2]
  refine zT.ltS (zT.ret ⟨?_, ?_, g _ _ (by omega) (by omega)⟩)
  · refine ((zE.refl _ _).wi ?_).wi ?_
    · simp [pmp]; omega
    · rcases h7 with rfl | rfl <;> rfl
  · refine ⟨by rw [g _ _ (by omega) (by omega)]; exact h1, by rw [g _ _ (by omega) (by omega)]; exact h2, fun k hk => by rw [g _ _ (by omega) (by omega)]; exact h3 k hk, by rw [g _ _ (by omega) (by omega)]; exact h4, by rw [gi_i, if_pos ⟨rfl, rfl⟩, List.length_append]; rfl, fun k hk => ?_, h7⟩
    rw [List.length_append, List.length_singleton] at hk
    by_cases e : k = ms.length
    · subst e
      rw [gi_i, if_neg (by omega), gi_i, if_pos ⟨rfl, rfl⟩, lF_ge (Nat.le_refl _), Nat.sub_self]
      rfl
    · rw [g _ _ (by omega) (by omega), lF_lt (by omega)]
      exact h6 k (by omega)
theorem m_takes (h : PM tx to p s b ms) (hb : b ≤ to) (ht : to ≤ 60) (c : Int32) : zT (f_M_takes c s) (fun r => r.1 = gis tx to c b ∧ zE (pmp p) s r.2 ∧ PM tx to p r.2 (if gis tx to c b = true then b + 1 else b) ms ∧ gi r.2 0 21 = gi s 0 21) := by
  obtain ⟨h1, h2, h3, _⟩ := id h
  unfold f_M_takes
  refine zT.jnQ (fun y => y = gis tx to c b) ?_ ?_
  · rintro _ rfl
    rw [h1]
    have e : nI b + f_M_flag (gis tx to c b) = nI (if gis tx to c b = true then b + 1 else b) := by
      rw [flag_t, nI_add]
      cases gis tx to c b <;> rfl
    rw [e]
    exact zT.ltS (zT.ret ⟨rfl, PM.goE s _, h.go _, rfl⟩)
  intro j3 hj3
  refine zT.jnQ (fun _ => gis tx to c b = false) (fun _ q => hj3 _ q.symm) ?_
  intro j5 hj5
  rw [h1, h2]
  refine zT.ite (fun q => hj5 () ?_) (fun q => ?_)
  · rw [nI_leI (by omega) (by omega)] at q
    unfold gis; rw [decide_eq_false (by omega), Bool.false_and]
  · rw [nI_leI (by omega) (by omega)] at q
    have hlt : b < to := by omega
    refine zT.gu (inb_n (by omega) (by decide)) ?_
    rw [ai_n _ _ (by omega), h3 b hlt]
    refine zT.ite (fun q2 => hj3 _ ?_) (fun q2 => hj5 () ?_)
    · rw [gis_b hlt, decide_eq_true q2]
    · rw [gis_b hlt, decide_eq_false q2]
theorem m_isDigit (h : PM tx to p s b ms) (hb : b ≤ to + 1) (ht : to ≤ 60) : f_M_isDigit s = some (gdig tx to b) := by
  obtain ⟨h1, h2, h3, _⟩ := id h
  apply zT.eq
  unfold f_M_isDigit
  rw [h1, h2]
  refine zT.jnQ (fun _ => gdig tx to b = false) (fun _ q => zT.ret q.symm) ?_
  intro j hj
  refine zT.ite (fun q => hj () ?_) (fun q => ?_)
  · rw [nI_leI (by omega) (by omega)] at q
    unfold gdig; rw [decide_eq_false (by omega), Bool.false_and]
  · rw [nI_leI (by omega) (by omega)] at q
    have e : gdig tx to b = decide (48 ≤ tx b ∧ tx b ≤ 57) := by unfold gdig; rw [decide_eq_true (show b < to by omega), Bool.true_and, Bool.decide_and]
    refine zT.gu (inb_n (by omega) (by decide)) ?_
    rw [ai_n _ _ (by omega), h3 b (by omega), in4857]
    refine zT.ite (fun q2 => zT.ret ?_) (fun q2 => hj () ?_)
    · rw [e]; exact q2.symm
    · rw [e]; cases w : decide (48 ≤ tx b ∧ tx b ≤ 57); rfl; exact absurd w q2
theorem m_among {i : Nat} (h : PM tx to p s b ms) (hn : 20 < n) (hi : i < 6) (hb : b ≤ to) (ht : to ≤ 60) : f_M_among n (700 + i) s = some (if b < to then ixo (z_tb.getD i []) (tx b) else -1) := by
  obtain ⟨h1, h2, h3, _⟩ := id h
  obtain ⟨e1, e2⟩ := ztl_e i hi
  apply zT.eq
  unfold f_M_among
  rw [show 700 + i - 700 = i by omega, e1]
  refine zT.gu (decide_eq_true ⟨by omega, by omega⟩) ?_
  refine zT.cnt 15 (fun k x => k ≤ (z_tb.getD i []).length ∧ x = nI k ∧ (b < to → ∀ j, j < k → decide ((z_tb.getD i []).getD j 0 = tx b) = false)) (by omega) ⟨Nat.zero_le _, rfl, fun _ j hj => absurd hj (Nat.not_lt_zero _)⟩ ?_
  rintro j k _ hk ⟨hkl, rfl, hf⟩ hj
  refine zT.ite (fun q => ?_) (fun q => ?_)
  · rw [show Int32.ofNat (z_tb.getD i []).length = nI (z_tb.getD i []).length from rfl, nI_leI (by omega) (by omega)] at q
    have e : k = (z_tb.getD i []).length := by omega
    refine zT.ret ?_
    by_cases hlt : b < to
    · rw [if_pos hlt]
      unfold ixo
      rw [ff_no (fun j hj => hf hlt j (by omega)), if_neg (Nat.lt_irrefl _)]
    · rw [if_neg hlt]
  · rw [show Int32.ofNat (z_tb.getD i []).length = nI (z_tb.getD i []).length from rfl, nI_leI (by omega) (by omega)] at q
    rw [h1, h2]
    refine zT.ite (fun q2 => zT.ret ?_) (fun q2 => ?_)
    · rw [nI_leI (by omega) (by omega)] at q2
      rw [if_neg (by omega)]
    · rw [nI_leI (by omega) (by omega)] at q2
      have hlt : b < to := by omega
      refine zT.gu (inb_n (by omega) (by omega)) (zT.gu (inb_n (by omega) (by decide)) ?_)
      rw [ai_n _ _ (by omega), h3 b hlt, show z_ch i (nI k) = (z_tb.getD i []).getD k 0 from by unfold z_ch; rw [nI_clamp (by omega)]]
      refine zT.ite (fun q3 => zT.ret ?_) (fun q3 => ?_)
      · rw [if_pos hlt]
        have := ff_at (p := fun j => decide ((z_tb.getD i []).getD j 0 = tx b)) (n := (z_tb.getD i []).length) (b := k) (by omega) (decide_eq_true q3) (fun j hj => hf hlt j hj)
        unfold ixo
        rw [this, if_pos (by omega)]
      · rw [nI_1]
        refine zT.ltS (hj (by omega) _ ⟨by omega, rfl, fun hl j hj => ?_⟩)
        by_cases e : j = k
        · rw [e]; exact decide_eq_false q3
        · exact hf hl j (by omega)
theorem amg_neg {i : Nat} (hi : i < 6) : (if b < to then ixo (z_tb.getD i []) (tx b) else -1) < 0 ↔ gmem tx to (z_tb.getD i []) b = false := by
  obtain ⟨_, e2⟩ := ztl_e i hi
  unfold gmem
  by_cases hlt : b < to
  · rw [if_pos hlt, ixo_neg (by omega), decide_eq_true hlt, Bool.true_and, decide_eq_false_iff_not]
  · rw [if_neg hlt, decide_eq_false hlt, Bool.false_and]
    exact ⟨fun _ => rfl, fun _ => by decide⟩
theorem tb_0 : z_tb.getD 0 [] = L0 := rfl
theorem m_thing {R : ZMF} {G : Nat → PR} {z : Bool} (hn : 100 < n) (ht : to ≤ 60) (hne : nest ≤ 4) (hz : z = true ↔ nest < 4) (hA : z = true → SM tx to p (nest + 1) (R 0) G) (hB : z = true → GB to G) : SM tx to p nest (f_M_thing R n) (gThing tx to z G) := by
  intro b ms s h hN hb hl
  unfold f_M_thing gThing
  refine zT.bnE (m_isDigit h (by omega) ht) ?_
  refine zT.ite (fun c => ?_) (fun c => ?_)
  · obtain ⟨hbt, d, hd, ed⟩ := gdig_lt c
    have c0 : gis tx to 40 b = false := by
      rw [gis_b hbt, ed]
      refine decide_eq_false (fun w => ?_)
      have := (nI_eq (a := 48 + d) (b := 40) (by omega) (by decide)).mp w
      omega
    rw [c0, if_neg (by decide), if_pos c, h.1]
    refine zT.gu (inb_n (by omega) (by decide)) ?_
    rw [ai_n _ _ (by omega), h.2.2.1 b hbt, nI_1]
    refine zT.ltS (zT.ltS ?_)
    have h2 := h.go (b + 1)
    have hE2 : zE (pmp p) s (si s 0 19 (nI (b + 1))) := PM.goE s (b + 1)
    have hN2 : gi (si s 0 19 (nI (b + 1))) 0 21 = nI nest := by rw [gi_i, if_neg (by omega)]; exact hN
    generalize si s 0 19 (nI (b + 1)) = s2 at h2 hE2 hN2 ⊢
    refine zT.bnE (m_isDigit h2 (by omega) ht) ?_
    refine zT.jnQ (fun y => y.1 = (if gdig tx to (b + 1) = true then 10 * (tx b - 48) + tx (b + 1) - 48 else tx b - 48) ∧ zE (pmp p) s y.2 ∧ PM tx to p y.2 (if gdig tx to (b + 1) = true then b + 2 else b + 1) ms ∧ gi y.2 0 21 = nI nest) ?_ ?_
    · rintro ⟨_, y⟩ ⟨rfl, hE3, h3, hN3⟩
      dsimp only at *
      refine zT.bnT (m_marks h3 (by omega) _) ?_
      rintro s4 ⟨hE4, h4, hN4⟩
      by_cases q : gdig tx to (b + 1) = true
      · rw [if_pos q] at h4 ⊢
        rw [if_pos q] at h4
        exact zT.ret ⟨rfl, hE3.trans hE4, h4, fun _ => hN4.trans hN3⟩
      · rw [if_neg q] at h4 ⊢
        rw [if_neg q] at h4
        exact zT.ret ⟨rfl, hE3.trans hE4, h4, fun _ => hN4.trans hN3⟩
    · intro j9 hj9
      refine zT.ite (fun c3 => ?_) (fun c3 => ?_)
      · rw [if_pos c3, if_pos c3] at hj9
        obtain ⟨hbt2, _⟩ := gdig_lt c3
        rw [h2.1]
        refine zT.gu (inb_n (by omega) (by decide)) ?_
        rw [ai_n _ _ (by omega), h2.2.2.1 (b + 1) hbt2, nI_1]
        exact zT.ltS (zT.ltS (hj9 _ ⟨rfl, hE2.trans (PM.goE s2 (b + 2)), h2.go (b + 2), by dsimp only; rw [gi_i, if_neg (by omega)]; exact hN2⟩))
      · rw [if_neg c3, if_neg c3] at hj9
        exact hj9 _ ⟨rfl, hE2, h2, hN2⟩
  have cd : gdig tx to b = false := by cases w : gdig tx to b; rfl; exact absurd w c
  refine zT.bnE (m_among (i := 0) h (by omega) (by decide) hb ht) ?_
  rw [tb_0]
  refine zT.ite (fun c2 => ?_) (fun c2 => ?_)
  · have cm := (amg_neg (i := 0) (tx := tx) (b := b) (to := to) (by decide)).mp c2
    rw [tb_0] at cm
    rw [cd, cm]
    refine zT.bnE (m_among (i := 1) h (by omega) (by decide) hb ht) ?_
    refine zT.ite (fun c3 => ?_) (fun c3 => ?_)
    · have c4 := (amg_neg (i := 1) (tx := tx) (b := b) (to := to) (by decide)).mp c3
      have c5 : gis tx to 40 b = false := by
        unfold gis
        unfold gmem at c4
        by_cases hlt : b < to
        · rw [decide_eq_true hlt, Bool.true_and] at c4 ⊢
          rw [decide_eq_false_iff_not] at c4 ⊢
          exact fun w => c4 (by rw [w]; decide)
        · rw [decide_eq_false hlt, Bool.false_and]
      rw [c5, if_neg (by decide), if_neg (by decide), if_neg (by decide)]
      refine zT.ret ⟨rfl, zE.refl _ _, ?_, fun w => by cases w⟩
      dsimp only
      rw [List.append_nil]
      exact h
    · have c5 : gis tx to 40 b = true := by
        have c4 : gmem tx to (z_tb.getD 1 []) b = true := by
          cases w : gmem tx to (z_tb.getD 1 []) b
          · exact absurd ((amg_neg (i := 1) (by decide)).mpr w) c3
          · rfl
        obtain ⟨w1, w2⟩ := gmem_lt c4
        rw [gis_b w1]
        have w2 : tx b ∈ ([40] : List Int32) := w2
        exact decide_eq_true (by simpa using w2)
      have hbt := (gis_lt c5).1
      rw [if_pos c5, hN]
      refine zT.ite (fun c6 => ?_) (fun c6 => ?_)
      · have c6 : nest = 4 := (nI_eq (b := 4) (by omega) (by decide)).mp c6
        have cz : ¬ z = true := fun w => by have := hz.mp w; omega
        rw [if_neg cz]
        refine zT.ret ⟨rfl, zE.refl _ _, ?_, fun w => by cases w⟩
        dsimp only
        rw [List.append_nil]
        exact h
      · have c6 : nest ≠ 4 := fun w => c6 (by rw [w]; rfl)
        have cz : z = true := hz.mpr (by omega)
        rw [if_pos cz, h.1, nI_1]
        refine zT.ltS ?_
        rw [show gi (si s 0 19 (nI (b + 1))) 0 21 = nI nest from by rw [gi_i, if_neg (by omega)]; exact hN, nI_1]
        refine zT.ltS ?_
        have h2 : PM tx to p (si (si s 0 19 (nI (b + 1))) 0 21 (nI (nest + 1))) (b + 1) ms := (h.go (b + 1)).ne _
        have hE2 : zE (pmp p) s (si (si s 0 19 (nI (b + 1))) 0 21 (nI (nest + 1))) := (PM.goE s (b + 1)).trans (PM.neE _ _)
        have hN2 : gi (si (si s 0 19 (nI (b + 1))) 0 21 (nI (nest + 1))) 0 21 = nI (nest + 1) := by rw [gi_i, if_pos ⟨rfl, rfl⟩]
        generalize si (si s 0 19 (nI (b + 1))) 0 21 (nI (nest + 1)) = s2 at h2 hE2 hN2 ⊢
        obtain ⟨g1, g2, g3⟩ := hB cz (b + 1) (by omega)
        refine zT.bnT (hA cz (b + 1) ms s2 h2 hN2 (by omega) (by omega)) ?_
        rintro ⟨_, s3⟩ ⟨rfl, hE3, h3, hN3⟩
        dsimp only at *
        refine zT.ite (fun c7 => ?_) (fun c7 => ?_)
        · rw [if_pos c7]
          refine zT.bnT (m_takes h3 g2 ht 41) ?_
          rintro ⟨_, s4⟩ ⟨rfl, hE4, h4, hN4⟩
          dsimp only at *
          refine zT.ite (fun c8 => ?_) (fun c8 => ?_)
          · rw [if_pos c8] at h4 ⊢
            rw [hN4, hN3 c7, nI_pred]
            exact zT.ltS (zT.ret ⟨rfl, hE2.trans (hE3.trans (hE4.trans (PM.neE _ _))), h4.ne _, fun _ => by dsimp only; rw [gi_i, if_pos ⟨rfl, rfl⟩]⟩)
          · rw [if_neg c8] at h4 ⊢
            exact zT.ret ⟨rfl, hE2.trans (hE3.trans hE4), h4, fun w => by cases w⟩
        · rw [if_neg c7]
          exact zT.ret ⟨rfl, hE2.trans hE3, h3, fun w => by cases w⟩
  · have cm : gmem tx to L0 b = true := by
      cases w : gmem tx to L0 b
      · exact absurd ((amg_neg (i := 0) (by decide)).mpr w) c2
      · rfl
    obtain ⟨hbt, hin⟩ := gmem_lt cm
    have c5 : gis tx to 40 b = false := by
      rw [gis_b hbt]
      exact decide_eq_false (fun w => by rw [w] at hin; exact absurd hin (by decide))
    rw [if_pos hbt, c5, if_neg (by decide), cd, if_neg (by decide), if_pos cm]
    refine zT.bnT (m_marks h (by omega) _) ?_
    rintro s2 ⟨hE2, h2, hN2⟩
    rw [h2.1, nI_1]
    refine zT.ltS (zT.ret ⟨rfl, hE2.trans (PM.goE s2 _), h2.go _, fun _ => ?_⟩)
    dsimp only
    rw [gi_i, if_neg (by omega)]
    exact hN2.trans hN
theorem m_ahead {R : ZMF} {T : Nat → PR} (ht : to ≤ 60) (hT : SM tx to p nest (f_M_thing R n) T) (hB : GB to T) : ∀ f r b, b ≤ to → to - b = f → f < r → ∀ ms s, PM tx to p s b ms → gi s 0 21 = nI nest → ms.length ≤ b → zT (fx_M_ahead R n r s) (mrP tx to p nest s (gD tx to T f b) ms) := by
  intro f
  induction f with
  | zero =>
    intro r b hb hf hr ms s h hN hl
    obtain ⟨r, rfl⟩ : ∃ r', r = r' + 1 := ⟨r - 1, by omega⟩
    show zT (f_M_ahead (fx_M_ahead R n r) (f_M_thing R n) s) _
    unfold f_M_ahead
    have e : gis tx to 33 b = false := by unfold gis; rw [decide_eq_false (by omega), Bool.false_and]
    refine zT.bnT (m_takes h hb ht 33) ?_
    rintro ⟨_, s1⟩ ⟨rfl, hE1, h1, hN1⟩
    dsimp only at *
    rw [e] at h1 ⊢
    refine zT.ie (by decide) (zT.bnT (hT b ms s1 h1 (hN1.trans hN) hb hl) ?_)
    rintro ⟨w, s2⟩ ⟨q1, q2, q3, q4⟩
    exact zT.ret ⟨q1, hE1.trans q2, q3, q4⟩
  | succ f ih =>
    intro r b hb hf hr ms s h hN hl
    obtain ⟨r, rfl⟩ : ∃ r', r = r' + 1 := ⟨r - 1, by omega⟩
    show zT (f_M_ahead (fx_M_ahead R n r) (f_M_thing R n) s) (mrP tx to p nest s (if gis tx to 33 b = true then bang (gD tx to T f (b + 1)) else T b) ms)
    unfold f_M_ahead
    refine zT.bnT (m_takes h hb ht 33) ?_
    rintro ⟨_, s1⟩ ⟨rfl, hE1, h1, hN1⟩
    dsimp only at *
    refine zT.ite (fun c => ?_) (fun c => ?_)
    · rw [if_pos c] at h1 ⊢
      have hlt := (gis_lt c).1
      obtain ⟨g1, g2, g3⟩ := gD_B (tx := tx) hB f (b + 1) (show b + 1 ≤ to by omega)
      refine zT.bnT (ih r (b + 1) (by omega) (by omega) (by omega) ms s1 h1 (hN1.trans hN) (by omega)) ?_
      rintro ⟨_, s2⟩ ⟨rfl, q2, q3, q4⟩
      dsimp only at *
      unfold bang
      refine zT.ite (fun c2 => ?_) (fun c2 => ?_)
      · rw [if_pos c2]
        refine zT.bnT (m_marks q3 (by rw [List.length_append]; omega) 2033) ?_
        rintro s3 ⟨hE3, h3, hN3⟩
        refine zT.ret ⟨c2, hE1.trans (q2.trans hE3), ?_, fun _ => hN3.trans (q4 c2)⟩
        dsimp only
        rw [← List.append_assoc]
        exact h3
      · rw [if_neg c2]
        exact zT.ret ⟨rfl, hE1.trans q2, q3, q4⟩
    · rw [if_neg c] at h1 ⊢
      refine zT.bnT (hT b ms s1 h1 (hN1.trans hN) hb hl) ?_
      rintro ⟨w, s2⟩ ⟨q1, q2, q3, q4⟩
      exact zT.ret ⟨q1, hE1.trans q2, q3, q4⟩
theorem m_loopR {R : ZMF} {sub : Nat → PR} {one : Bool} {i : Nat} {a0 : Int32} (hn : 100 < n) (ht : to ≤ 60) (hi : i < 6) (hone : (if a0 = (2 : Int32) then (0 : Int32) else (1 : Int32)) = if one = true then 0 else 1) (hR : SM tx to p nest (R (a0 + 1)) sub) (hB : GB to sub) :
    SM tx to p nest (fun s => bn (R (a0 + (1 : Int32)) s) (fun p4 =>
      lpN (fun j6 (x5 : Bool × Int32 × ZSt) =>
      (if x5.1 = true then
        (if x5.2.1 = 0 then
          some (x5.1, x5.2.2)
        else bn (f_M_among n (700 + i) x5.2.2) (fun p9 =>
            (if p9 < 0 then
            some (x5.1, x5.2.2)
          else gd (inb (gi x5.2.2 0 19) 80) (
              lt (ai x5.2.2 117 (gi x5.2.2 0 19)) (fun v12 =>
              lt (si x5.2.2 0 19 ((gi x5.2.2 0 19) + (1 : Int32))) (fun s13 =>
              bn (R (a0 + (1 : Int32)) s13) (fun p14 =>
              (jn (fun (x15 : ZSt) =>
                (lt ((if a0 = (2 : Int32) then
                  (0 : Int32)
                else (1 : Int32)) : Int32) (fun x16 =>
                    j6 (p14.1, x16, x15)))) (fun j19 =>
                if p14.1 = true then
              bn (f_M_marks ((2000 : Int32) + v12) p14.2) (fun p21 =>
                j19 p21)
            else j19 p14.2)))))))))
      else some (x5.1, x5.2.2))) n (p4.1, (1 : Int32), p4.2))) (gBin tx to one (z_tb.getD i []) sub) := by
  intro b ms s h hN hb hl
  generalize hG : gBin tx to one (z_tb.getD i []) sub b = G
  unfold gBin at hG
  obtain ⟨g1, g2, g3⟩ := hB b hb
  refine zT.bnT (hR b ms s h hN hb hl) ?_
  rintro ⟨_, s1⟩ ⟨rfl, hE1, h1, hN1⟩
  dsimp only at *
  rw [hone]
  refine zT.cnt 62 (fun k x => (x.1 = true ∧ x.2.1 = 1 ∧ ∃ b' m, k ≤ b' ∧ b' ≤ to ∧ ms.length + m.length ≤ b' ∧ zE (pmp p) s x.2.2 ∧ PM tx to p x.2.2 b' (ms ++ m) ∧ gi x.2.2 0 21 = nI nest ∧ gLoop tx to one (z_tb.getD i []) sub (to - b') b' m = G) ∨ ((x.1 = false ∨ x.2.1 = 0) ∧ mrP tx to p nest s G ms (x.1, x.2.2))) (by omega) ?_ ?_
  · by_cases q : (sub b).1 = true
    · rw [if_pos q] at hG
      exact Or.inl ⟨q, rfl, (sub b).2.1, (sub b).2.2, Nat.zero_le _, g2, by omega, hE1, h1, hN1 q, hG⟩
    · rw [if_neg q] at hG
      subst hG
      exact Or.inr ⟨Or.inl (by cases w : (sub b).1; rfl; exact absurd w q), rfl, hE1, h1, hN1⟩
  rintro j k ⟨is, more, x⟩ hk hI hj
  dsimp only at *
  rcases hI with ⟨rfl, rfl, b', m, h1', h2', h3', hE, hP, hNx, hG'⟩ | ⟨hx, hfin⟩
  · refine zT.it rfl (zT.ie (by decide) ?_)
    refine zT.bnE (m_among hP (by omega) hi h2' ht) ?_
    refine zT.ite (fun q => ?_) (fun q => ?_)
    · have e := (amg_neg hi).mp q
      rw [gLoop_no e] at hG'
      subst hG'
      exact zT.ret ⟨rfl, hE, hP, fun _ => hNx⟩
    have hg : gmem tx to (z_tb.getD i []) b' = true := by
      cases w : gmem tx to (z_tb.getD i []) b'
      · exact absurd ((amg_neg hi).mpr w) q
      · rfl
    have hlt := (gmem_lt hg).1
    obtain ⟨g4, g5, g6⟩ := hB (b' + 1) (by omega)
    rw [hP.1]
    refine zT.gu (inb_n (by omega) (by decide)) ?_
    rw [ai_n _ _ (by omega), hP.2.2.1 _ hlt, nI_1]
    refine zT.ltS (zT.ltS (zT.bnT (hR (b' + 1) (ms ++ m) _ (hP.go _) (by rw [gi_i, if_neg (by omega)]; exact hNx) (by omega) (by rw [List.length_append]; omega)) ?_))
    rintro ⟨_, s2⟩ ⟨rfl, hE2, h2, hN2⟩
    dsimp only at *
    have hE3 : zE (pmp p) s s2 := hE.trans ((PM.goE x _).trans hE2)
    by_cases q4 : (sub (b' + 1)).1 = true
    · refine zT.jnQ (fun y => zE (pmp p) s y ∧ PM tx to p y (sub (b' + 1)).2.1 (ms ++ (m ++ ((sub (b' + 1)).2.2 ++ [2000 + tx b']))) ∧ gi y 0 21 = nI nest) ?_ ?_
      · rintro y ⟨y1, y2, y3⟩
        refine zT.ltS (hj (by omega) _ ?_)
        dsimp only
        cases one with
        | true =>
          rw [gLoop_yes hg, if_pos q4, if_pos rfl] at hG'
          subst hG'
          exact Or.inr ⟨Or.inr rfl, q4, y1, y2, fun _ => y3⟩
        | false =>
          rw [gLoop_step hB hg q4] at hG'
          exact Or.inl ⟨q4, rfl, (sub (b' + 1)).2.1, m ++ ((sub (b' + 1)).2.2 ++ [2000 + tx b']), by omega, g5, by rw [List.length_append, List.length_append, List.length_singleton]; omega, y1, y2, y3, hG'⟩
      · intro j19 hj19
        refine zT.it q4 (zT.bnT (m_marks h2 (by rw [List.length_append, List.length_append]; omega) _) ?_)
        rintro s4 ⟨hE4, h4, hN4⟩
        refine hj19 _ ⟨hE3.trans hE4, ?_, hN4.trans (hN2 q4)⟩
        have e : ms ++ (m ++ ((sub (b' + 1)).2.2 ++ [2000 + tx b'])) = ms ++ m ++ (sub (b' + 1)).2.2 ++ [2000 + tx b'] := by
          simp only [List.append_assoc]
        rw [e]
        exact h4
    · rw [gLoop_stop hg q4] at hG'
      subst hG'
      have q5 : (sub (b' + 1)).1 = false := by cases w : (sub (b' + 1)).1; rfl; exact absurd w q4
      refine zT.jo (zT.ie q4 (zT.ltS (hj (by omega) _ (Or.inr ⟨Or.inl q5, q5, hE3, ?_, fun w => by cases w⟩))))
      dsimp only
      rw [← List.append_assoc]
      exact h2
  · refine zT.ite (fun q => ?_) (fun q => zT.ret hfin)
    rcases hx with e | e
    · rw [e] at q; cases q
    · exact zT.it e (zT.ret hfin)
theorem m_rk4 {R : ZMF} {T : Nat → PR} (ht : to ≤ 60) (hT : SM tx to p nest (f_M_thing R n) T) (hB : GB to T) : SM tx to p nest (f_M_ranked R (fx_M_ahead R n 61) n (nI 4)) (gDen tx to T) := by
  intro b ms s h hN hb hl
  unfold f_M_ranked
  refine zT.it rfl (zT.bnT (m_ahead ht hT hB (to - b) 61 b hb rfl (by omega) ms s h hN hl) ?_)
  rintro ⟨w, s2⟩ hq
  exact zT.ret hq
theorem m_rk3 {R : ZMF} {Ah : ZSt → Option (Bool × ZSt)} {sub : Nat → PR} (hn : 100 < n) (ht : to ≤ 60) (hR : SM tx to p nest (R (nI 4)) sub) (hB : GB to sub) : SM tx to p nest (f_M_ranked R Ah n (nI 3)) (gBin tx to false [43, 45] sub) := by
  intro b ms s h hN hb hl
  unfold f_M_ranked
  refine zT.ie (by decide) (zT.ie (by decide) (zT.ie (by decide) (zT.ie (by decide) ?_)))
  exact m_loopR (i := 5) (a0 := nI 3) (one := false) hn ht (by decide) (by decide) (by rw [nI_1]; exact hR) hB b ms s h hN hb hl
theorem m_rk2 {R : ZMF} {Ah : ZSt → Option (Bool × ZSt)} {sub : Nat → PR} (hn : 100 < n) (ht : to ≤ 60) (hR : SM tx to p nest (R (nI 3)) sub) (hB : GB to sub) : SM tx to p nest (f_M_ranked R Ah n (nI 2)) (gBin tx to true [60, 62, 61] sub) := by
  intro b ms s h hN hb hl
  unfold f_M_ranked
  refine zT.ie (by decide) (zT.ie (by decide) (zT.ie (by decide) (zT.it (by decide) ?_)))
  exact m_loopR (i := 4) (a0 := nI 2) (one := true) hn ht (by decide) (by decide) (by rw [nI_1]; exact hR) hB b ms s h hN hb hl
theorem m_rk1 {R : ZMF} {Ah : ZSt → Option (Bool × ZSt)} {sub : Nat → PR} (hn : 100 < n) (ht : to ≤ 60) (hR : SM tx to p nest (R (nI 2)) sub) (hB : GB to sub) : SM tx to p nest (f_M_ranked R Ah n (nI 1)) (gBin tx to false [38] sub) := by
  intro b ms s h hN hb hl
  unfold f_M_ranked
  refine zT.ie (by decide) (zT.ie (by decide) (zT.it (by decide) ?_))
  exact m_loopR (i := 3) (a0 := nI 1) (one := false) hn ht (by decide) (by decide) (by rw [nI_1]; exact hR) hB b ms s h hN hb hl
theorem m_rk0 {R : ZMF} {Ah : ZSt → Option (Bool × ZSt)} {sub : Nat → PR} (hn : 100 < n) (ht : to ≤ 60) (hR : SM tx to p nest (R (nI 1)) sub) (hB : GB to sub) : SM tx to p nest (f_M_ranked R Ah n 0) (gBin tx to false [124] sub) := by
  intro b ms s h hN hb hl
  unfold f_M_ranked
  refine zT.ie (by decide) (zT.it rfl ?_)
  exact m_loopR (i := 2) (a0 := 0) (one := false) hn ht (by decide) (by decide) hR hB b ms s h hN hb hl
theorem m_ranked {q r : Nat} {G : Nat → PR} {z : Bool} (hn : 100 < n) (ht : to ≤ 60) (hne : nest ≤ 4) (hz : z = true ↔ nest < 4) (hA : z = true → SM tx to p (nest + 1) (fx_M_ranked n q 0) G) (hB : z = true → GB to G) : SM tx to p nest (fx_M_ranked n (q + 5) 0) (gAny tx to (gThing tx to z G)) := by
  have B0 : GB to (gThing tx to z G) := gThing_B (by cases z; exact Or.inr rfl; exact Or.inl (hB rfl))
  have s0 : SM tx to p nest (f_M_thing (fx_M_ranked n q) n) (gThing tx to z G) := m_thing hn ht hne hz hA hB
  have s1 : SM tx to p nest (fx_M_ranked n (q + 1) (nI 4)) (gDen tx to (gThing tx to z G)) := m_rk4 ht s0 B0
  have s2 : SM tx to p nest (fx_M_ranked n (q + 2) (nI 3)) (gSum tx to (gThing tx to z G)) := m_rk3 hn ht s1 (gDen_B B0)
  have s3 : SM tx to p nest (fx_M_ranked n (q + 3) (nI 2)) (gCmp tx to (gThing tx to z G)) := m_rk2 hn ht s2 (gSum_B B0)
  have s4 : SM tx to p nest (fx_M_ranked n (q + 4) (nI 1)) (gAll tx to (gThing tx to z G)) := m_rk1 hn ht s3 (gCmp_B B0)
  exact m_rk0 hn ht s4 (gAll_B B0)
theorem m_any (hn : 100 < n) (ht : to ≤ 60) : ∀ r q, r ≤ 4 → 5 * r ≤ q → SM tx to p (4 - r) (fx_M_ranked n (q + 5) 0) (gRc tx to r) := by
  intro r
  induction r with
  | zero =>
    intro q _ hq
    exact m_ranked (r := 0) hn ht (by omega) (z := false) ⟨fun w => (by cases w), fun w => absurd w (by decide)⟩ (fun w => (by cases w)) (fun w => (by cases w))
  | succ r ih =>
    intro q hr hq
    refine m_ranked (r := 0) hn ht (by omega) (z := true) ⟨fun _ => by omega, fun _ => rfl⟩ (fun _ => ?_) (fun _ => gRc_B r)
    rw [show 4 - (r + 1) + 1 = 4 - r by omega, show q = (q - 5) + 5 by omega]
    exact ih (q - 5) (by omega) (by omega)
end
end Z93
