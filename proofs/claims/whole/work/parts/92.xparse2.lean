-- the class's parser: the rest of it
section Z92
section
variable {tx : Nat → Int32} {to o : Nat}
theorem repl_s (j : Nat) (m : Int32) (l : List Int32) : (l ++ [m]) ++ List.replicate j m = l ++ List.replicate (j + 1) m := by
  rw [List.append_assoc]; rfl
def bnr (j : Nat) (r : PR) : PR := if r.1 = true then (true, r.2.1, r.2.2 ++ List.replicate j 2033) else r
theorem bnr_0 (r : PR) : bnr 0 r = r := by
  obtain ⟨a, b, c⟩ := r
  unfold bnr
  by_cases h : a = true
  · subst h; simp
  · rw [if_neg h]
theorem bnr_s (j : Nat) (r : PR) : bnr j (bang r) = bnr (j + 1) r := by
  unfold bnr bang
  by_cases h : r.1 = true
  · rw [if_pos h, if_pos rfl, if_pos h]
    dsimp only
    rw [repl_s]
  · rw [if_neg h, if_neg h, if_neg h]
theorem gD_no {T : Nat → PR} {f b : Nat} (h : gis tx to 33 b = false) : gD tx to T f b = T b := by
  cases f with
  | zero => rfl
  | succ f =>
    show (if gis tx to 33 b = true then _ else T b) = _
    rw [h, if_neg (by decide)]
theorem gD_yes {T : Nat → PR} {b : Nat} (h : gis tx to 33 b = true) : gD tx to T (to - b) b = bang (gD tx to T (to - (b + 1)) (b + 1)) := by
  have := (gis_lt h).1
  rw [show to - b = (to - (b + 1)) + 1 by omega]
  show (if gis tx to 33 b = true then _ else T b) = _
  rw [if_pos h]
theorem x_denied {n : Nat} {F : ZPF} {T : Nat → PR} {a0 : Int32} (hn : 100 < n) (ht : to ≤ 60) (hF : SX' tx to o (F a0) T) (hB : GB to T) : SX' tx to o (f_P_denied F n a0) (gDen tx to T) := by
  intro b ms s h hb hl
  unfold f_P_denied
  generalize hG : gDen tx to T b = G
  refine zT.jnQ (fun y => ∃ k, y.1 = nI k ∧ k ≤ to ∧ b + k ≤ to ∧ G = bnr k (T (b + k)) ∧ zE (pxp o) s y.2 ∧ PX tx to o y.2 (b + k) ms) ?_ ?_
  · rintro ⟨_, y⟩ ⟨k, rfl, hk, hbk, hGk, hE, hP⟩
    dsimp only at *
    obtain ⟨g1, g2, g3⟩ := hB (b + k) hbk
    refine zT.bnT (hF (b + k) ms y hP hbk (by omega)) ?_
    rintro ⟨_, s2⟩ ⟨rfl, hE2, h2⟩
    dsimp only at *
    refine zT.ite (fun c => ?_) (fun c => ?_)
    · have hG2 : G = (true, (T (b + k)).2.1, (T (b + k)).2.2 ++ List.replicate k 2033) := by rw [hGk]; unfold bnr; rw [if_pos c]
      rw [hG2]
      refine zT.cnt k (fun i x => i ≤ k ∧ x.1 = nI i ∧ zE (pxp o) s x.2 ∧ PX tx to o x.2 (T (b + k)).2.1 (ms ++ ((T (b + k)).2.2 ++ List.replicate i 2033))) (by omega) ⟨Nat.zero_le _, rfl, hE.trans hE2, by simpa using h2⟩ ?_
      rintro j i ⟨_, w⟩ _ ⟨hi, rfl, hE3, h3⟩ hj
      dsimp only at *
      refine zT.ite (fun c2 => ?_) (fun c2 => ?_)
      · rw [nI_leI (by omega) (by omega)] at c2
        have e : i = k := by omega
        subst e
        exact zT.ret ⟨rfl, hE3, h3⟩
      · rw [nI_leI (by omega) (by omega)] at c2
        refine zT.gu (P_isO h3) (zT.bnT (p_append h3 (m := 2033) (by rw [List.length_append, List.length_append, List.length_replicate]; omega) (by decide)) ?_)
        rintro w2 ⟨hE4, h4⟩
        rw [nI_1]
        refine zT.ltS (hj (by omega) _ ⟨by omega, rfl, hE3.trans hE4, ?_⟩)
        dsimp only
        have e : ms ++ ((T (b + k)).2.2 ++ List.replicate i 2033) ++ [2033] = ms ++ ((T (b + k)).2.2 ++ List.replicate (i + 1) 2033) := by
          rw [List.append_assoc, List.append_assoc, List.replicate_succ']
        rw [← e]
        exact h4
    · have hG2 : G = T (b + k) := by rw [hGk]; unfold bnr; rw [if_neg c]
      rw [hG2]
      exact zT.ret ⟨by dsimp only; cases q : (T (b + k)).1; rfl; exact absurd q c, hE.trans hE2, h2⟩
  · intro j10 hj10
    refine zT.cnt 61 (fun k x => b + k ≤ to ∧ x.1 = nI k ∧ zE (pxp o) s x.2 ∧ PX tx to o x.2 (b + k) ms ∧ G = bnr k (gD tx to T (to - (b + k)) (b + k))) (by omega) ⟨hb, rfl, zE.refl _ _, h, by rw [bnr_0]; exact hG.symm⟩ ?_
    rintro j12 k ⟨_, y⟩ hk ⟨hbk, rfl, hE, hP, hGk⟩ hj12
    dsimp only at *
    have fin : gis tx to 33 (b + k) = false → zT (j10 (nI k, y)) (xrP tx to o s G ms) := fun q => hj10 _ ⟨k, rfl, by omega, hbk, by rw [hGk, gD_no q], hE, hP⟩
    rw [hP.2.1, hP.1]
    refine zT.ite (fun c => ?_) (fun c => ?_)
    · rw [nI_leI (by omega) (by omega)] at c
      refine fin ?_
      unfold gis; rw [decide_eq_false (by omega), Bool.false_and]
    · rw [nI_leI (by omega) (by omega)] at c
      have hlt : b + k < to := by omega
      refine zT.gu (inb_n (by omega) (by decide)) ?_
      rw [ai_n _ _ (by omega), hP.2.2.1 _ hlt]
      refine zT.ite (fun c2 => ?_) (fun c2 => ?_)
      · have hg : gis tx to 33 (b + k) = true := by rw [gis_b hlt]; exact decide_eq_true c2
        rw [nI_1, nI_1]
        refine zT.ltS (zT.ltS (hj12 (by omega) _ ⟨by omega, rfl, hE.trans (PX.goE y _), by dsimp only; exact hP.go _, ?_⟩))
        rw [hGk, gD_yes hg, bnr_s]
        rfl
      · exact fin (by rw [gis_b hlt]; exact decide_eq_false c2)
theorem gLoop_no {one : Bool} {ops : List Int32} {sub : Nat → PR} {f b : Nat} {m : List Int32} (h : gmem tx to ops b = false) : gLoop tx to one ops sub f b m = (true, b, m) := by
  cases f with
  | zero => rfl
  | succ f =>
    unfold gLoop
    rw [h, if_neg (by decide)]
theorem gLoop_yes {one : Bool} {ops : List Int32} {sub : Nat → PR} {b : Nat} {m : List Int32} (h : gmem tx to ops b = true) : gLoop tx to one ops sub (to - b) b m = (if (sub (b + 1)).1 = true then (if one = true then (true, (sub (b + 1)).2.1, m ++ ((sub (b + 1)).2.2 ++ [2000 + tx b])) else gLoop tx to one ops sub (to - (b + 1)) (sub (b + 1)).2.1 (m ++ ((sub (b + 1)).2.2 ++ [2000 + tx b]))) else (false, (sub (b + 1)).2.1, m ++ (sub (b + 1)).2.2)) := by
  have := (gmem_lt h).1
  rw [show to - b = (to - (b + 1)) + 1 by omega]
  conv => lhs; unfold gLoop
  rw [h, if_pos rfl]
theorem gLoop_more {ops : List Int32} {sub : Nat → PR} (hB : GB to sub) : ∀ (d f b : Nat) (m : List Int32), b ≤ to → to - b ≤ f → gLoop tx to false ops sub (f + d) b m = gLoop tx to false ops sub f b m := by
  intro d f
  induction f with
  | zero =>
    intro b m hb hf
    have e : gmem tx to ops b = false := by unfold gmem; rw [decide_eq_false (by omega), Bool.false_and]
    rw [gLoop_no e, gLoop_no e]
  | succ f ih =>
    intro b m hb hf
    cases h : gmem tx to ops b
    · rw [gLoop_no h, gLoop_no h]
    · have hlt := (gmem_lt h).1
      obtain ⟨g1, g2, g3⟩ := hB (b + 1) (by omega)
      rw [show f + 1 + d = (f + d) + 1 by omega]
      unfold gLoop
      rw [h, if_pos rfl, if_pos rfl]
      by_cases c : (sub (b + 1)).1 = true
      · rw [if_pos c, if_pos c, if_neg (by decide), if_neg (by decide)]
        exact ih _ _ g2 (by have := (g3 c).1; omega)
      · rw [if_neg c, if_neg c]
/-- the loop's next round -/
theorem gLoop_step {ops : List Int32} {sub : Nat → PR} (hB : GB to sub) {b : Nat} {m : List Int32} (h : gmem tx to ops b = true) (hs : (sub (b + 1)).1 = true) : gLoop tx to false ops sub (to - b) b m = gLoop tx to false ops sub (to - (sub (b + 1)).2.1) (sub (b + 1)).2.1 (m ++ ((sub (b + 1)).2.2 ++ [2000 + tx b])) := by
  have hlt := (gmem_lt h).1
  obtain ⟨g1, g2, g3⟩ := hB (b + 1) (by omega)
  have := (g3 hs).1
  rw [gLoop_yes h, if_pos hs, if_neg (by decide)]
  have e := gLoop_more (tx := tx) (ops := ops) hB ((to - (b + 1)) - (to - (sub (b + 1)).2.1)) (to - (sub (b + 1)).2.1) (sub (b + 1)).2.1 (m ++ ((sub (b + 1)).2.2 ++ [2000 + tx b])) g2 (Nat.le_refl _)
  rw [← e]
  congr 1
  omega
theorem gLoop_stop {ops : List Int32} {sub : Nat → PR} {one : Bool} {b : Nat} {m : List Int32} (h : gmem tx to ops b = true) (hs : ¬ (sub (b + 1)).1 = true) : gLoop tx to one ops sub (to - b) b m = (false, (sub (b + 1)).2.1, m ++ (sub (b + 1)).2.2) := by
  rw [gLoop_yes h, if_neg hs]
theorem gmem_1 {c : Int32} {b : Nat} (hb : b < to) : gmem tx to [c] b = decide (tx b = c) := by
  unfold gmem
  rw [decide_eq_true hb, Bool.true_and]
  simp
theorem x_loop1 {n : Nat} {F : ZPF} {sub : Nat → PR} {a0 c it : Int32} (hn : 100 < n) (ht : to ≤ 60) (hit : it = xph (2000 + c)) (hF : SX' tx to o (F a0) sub) (hB : GB to sub) :
    SX' tx to o (fun s => bn (F a0 s) (fun p1 =>
  (if p1.1 = true then
  lpN (fun j4 (x3 : ZSt) =>
    (if (gi x3 200 7) ≤ (gi x3 200 6) then
      some (true, x3)
    else gd (inb (gi x3 200 6) 80) (
        (if (ai x3 224 (gi x3 200 6)) = c then
        lt (si x3 200 6 ((gi x3 200 6) + (1 : Int32))) (fun s8 =>
          bn (F a0 s8) (fun p9 =>
          (if p9.1 = true then
          gd (z_isO (gi p9.2 200 5).toNatClampNeg 1) (
            bn (f_E_append ((gi p9.2 200 5).toNatClampNeg) it p9.2) (fun p12 =>
            j4 p12))
        else some (false, p9.2))))
      else some (true, x3))))) n p1.2
else some (false, p1.2)))) (gBin tx to false [c] sub) := by
  intro b ms s h hb hl
  generalize hG : gBin tx to false [c] sub b = G
  unfold gBin at hG
  obtain ⟨g1, g2, g3⟩ := hB b hb
  refine zT.bnT (hF b ms s h hb hl) ?_
  rintro ⟨_, s1⟩ ⟨rfl, hE1, h1⟩
  dsimp only at *
  refine zT.ite (fun q => ?_) (fun q => ?_)
  rotate_left
  · rw [if_neg q] at hG
    subst hG
    exact zT.ret ⟨by dsimp only; cases w : (sub b).1; rfl; exact absurd w q, hE1, h1⟩
  rw [if_pos q] at hG
  refine zT.cnt 61 (fun k x => ∃ b' m, k ≤ b' ∧ b' ≤ to ∧ ms.length + m.length ≤ b' ∧ zE (pxp o) s x ∧ PX tx to o x b' (ms ++ m) ∧ gLoop tx to false [c] sub (to - b') b' m = G) (by omega) ⟨(sub b).2.1, (sub b).2.2, Nat.zero_le _, g2, by omega, hE1, h1, hG⟩ ?_
  rintro j k x hk ⟨b', m, h1', h2', h3', hE, hP, hG'⟩ hj
  have fin : gmem tx to [c] b' = false → zT (some (true, x)) (xrP tx to o s G ms) := fun e => by
    rw [gLoop_no e] at hG'
    subst hG'
    exact zT.ret ⟨rfl, hE, hP⟩
  rw [hP.2.1, hP.1]
  refine zT.ite (fun q2 => ?_) (fun q2 => ?_)
  · rw [nI_leI (by omega) (by omega)] at q2
    refine fin ?_
    unfold gmem; rw [decide_eq_false (by omega), Bool.false_and]
  rw [nI_leI (by omega) (by omega)] at q2
  have hlt : b' < to := by omega
  refine zT.gu (inb_n (by omega) (by decide)) ?_
  rw [ai_n _ _ (by omega), hP.2.2.1 _ hlt]
  refine zT.ite (fun q3 => ?_) (fun q3 => fin (by rw [gmem_1 hlt]; exact decide_eq_false q3))
  have hg : gmem tx to [c] b' = true := by rw [gmem_1 hlt]; exact decide_eq_true q3
  obtain ⟨g4, g5, g6⟩ := hB (b' + 1) (by omega)
  rw [nI_1]
  refine zT.ltS (zT.bnT (hF (b' + 1) (ms ++ m) _ (hP.go _) (by omega) (by rw [List.length_append]; omega)) ?_)
  rintro ⟨_, s2⟩ ⟨rfl, hE2, h2⟩
  dsimp only at *
  have hE3 : zE (pxp o) s s2 := hE.trans ((PX.goE x _).trans hE2)
  refine zT.ite (fun q4 => ?_) (fun q4 => ?_)
  · refine zT.gu (P_isO h2) (zT.bnT (p_append h2 (m := 2000 + tx b') (by rw [List.length_append, List.length_append]; omega) (by rw [q3]; exact hit)) ?_)
    rintro s4 ⟨hE4, h4⟩
    rw [gLoop_step hB hg q4] at hG'
    refine hj (by omega) s4 ⟨(sub (b' + 1)).2.1, m ++ ((sub (b' + 1)).2.2 ++ [2000 + tx b']), by omega, g5, by rw [List.length_append, List.length_append, List.length_singleton]; omega, hE3.trans hE4, ?_, hG'⟩
    have e : ms ++ (m ++ ((sub (b' + 1)).2.2 ++ [2000 + tx b'])) = ms ++ m ++ (sub (b' + 1)).2.2 ++ [2000 + tx b'] := by
      simp only [List.append_assoc]
    rw [e]
    exact h4
  · rw [gLoop_stop hg q4] at hG'
    subst hG'
    refine zT.ret ⟨rfl, hE3, ?_⟩
    dsimp only
    rw [← List.append_assoc]
    exact h2
theorem x_sum {n : Nat} {F : ZPF} {sub : Nat → PR} {a0 : Int32} (hn : 100 < n) (ht : to ≤ 60) (hF : SX' tx to o (F a0) sub) (hB : GB to sub) : SX' tx to o (f_P_sum F n a0) (gBin tx to false [43, 45] sub) := by
  intro b ms s h hb hl
  generalize hG : gBin tx to false [43, 45] sub b = G
  unfold gBin at hG
  unfold f_P_sum
  obtain ⟨g1, g2, g3⟩ := hB b hb
  refine zT.bnT (hF b ms s h hb hl) ?_
  rintro ⟨_, s1⟩ ⟨rfl, hE1, h1⟩
  dsimp only at *
  refine zT.ite (fun q => ?_) (fun q => ?_)
  rotate_left
  · rw [if_neg q] at hG
    subst hG
    exact zT.ret ⟨by dsimp only; cases w : (sub b).1; rfl; exact absurd w q, hE1, h1⟩
  rw [if_pos q] at hG
  refine zT.cnt 61 (fun k x => ∃ b' m, k ≤ b' ∧ b' ≤ to ∧ ms.length + m.length ≤ b' ∧ zE (pxp o) s x ∧ PX tx to o x b' (ms ++ m) ∧ gLoop tx to false [43, 45] sub (to - b') b' m = G) (by omega) ⟨(sub b).2.1, (sub b).2.2, Nat.zero_le _, g2, by omega, hE1, h1, hG⟩ ?_
  rintro j k x hk ⟨b', m, h1', h2', h3', hE, hP, hG'⟩ hj
  have fin : gmem tx to [43, 45] b' = false → zT (some (true, x)) (xrP tx to o s G ms) := fun e => by
    rw [gLoop_no e] at hG'
    subst hG'
    exact zT.ret ⟨rfl, hE, hP⟩
  rw [hP.2.1, hP.1]
  refine zT.ite (fun q2 => ?_) (fun q2 => ?_)
  · rw [nI_leI (by omega) (by omega)] at q2
    refine fin ?_
    unfold gmem; rw [decide_eq_false (by omega), Bool.false_and]
  rw [nI_leI (by omega) (by omega)] at q2
  have hlt : b' < to := by omega
  refine zT.gu (inb_n (by omega) (by decide)) ?_
  rw [ai_n _ _ (by omega), hP.2.2.1 _ hlt]
  refine zT.jnQ (fun _ => tx b' = 43 ∨ tx b' = 45) ?_ ?_
  · rintro _ q3
    have hg : gmem tx to [43, 45] b' = true := by
      unfold gmem
      rw [decide_eq_true hlt, Bool.true_and]
      exact decide_eq_true (by rcases q3 with e | e <;> rw [e] <;> decide)
    have hit : (if tx b' = (43 : Int32) then (136 : Int32) else (137 : Int32)) = xph (2000 + tx b') := by
      rcases q3 with e | e <;> rw [e] <;> decide
    obtain ⟨g4, g5, g6⟩ := hB (b' + 1) (by omega)
    rw [nI_1]
    refine zT.ln (fun x8 hx8 => zT.ltS (zT.bnT (hF (b' + 1) (ms ++ m) _ (hP.go _) (by omega) (by rw [List.length_append]; omega)) ?_))
    rintro ⟨_, s2⟩ ⟨rfl, hE2, h2⟩
    dsimp only at *
    have hE3 : zE (pxp o) s s2 := hE.trans ((PX.goE x _).trans hE2)
    refine zT.ite (fun q4 => ?_) (fun q4 => ?_)
    · refine zT.gu (P_isO h2) (zT.bnT (p_append h2 (m := 2000 + tx b') (by rw [List.length_append, List.length_append]; omega) (hx8.trans hit)) ?_)
      rintro s4 ⟨hE4, h4⟩
      rw [gLoop_step hB hg q4] at hG'
      refine hj (by omega) s4 ⟨(sub (b' + 1)).2.1, m ++ ((sub (b' + 1)).2.2 ++ [2000 + tx b']), by omega, g5, by rw [List.length_append, List.length_append, List.length_singleton]; omega, hE3.trans hE4, ?_, hG'⟩
      have e : ms ++ (m ++ ((sub (b' + 1)).2.2 ++ [2000 + tx b'])) = ms ++ m ++ (sub (b' + 1)).2.2 ++ [2000 + tx b'] := by
        simp only [List.append_assoc]
      rw [e]
      exact h4
    · rw [gLoop_stop hg q4] at hG'
      subst hG'
      refine zT.ret ⟨rfl, hE3, ?_⟩
      dsimp only
      rw [← List.append_assoc]
      exact h2
  · intro j16 hj16
    refine zT.ite (fun q3 => hj16 () (Or.inl q3)) (fun q3 => ?_)
    refine zT.ite (fun q4 => hj16 () (Or.inr q4)) (fun q4 => fin ?_)
    unfold gmem
    rw [decide_eq_true hlt, Bool.true_and]
    exact decide_eq_false (by simp [q3, q4])
theorem x_cmp {F : ZPF} {sub : Nat → PR} {a0 : Int32} (ht : to ≤ 60) (hF : SX' tx to o (F a0) sub) (hB : GB to sub) : SX' tx to o (f_P_compared F a0) (gBin tx to true [60, 62, 61] sub) := by
  intro b ms s h hb hl
  generalize hG : gBin tx to true [60, 62, 61] sub b = G
  unfold gBin at hG
  unfold f_P_compared
  obtain ⟨g1, g2, g3⟩ := hB b hb
  refine zT.bnT (hF b ms s h hb hl) ?_
  rintro ⟨_, s1⟩ ⟨rfl, hE1, h1⟩
  dsimp only at *
  refine zT.ite (fun q => ?_) (fun q => ?_)
  rotate_left
  · rw [if_neg q] at hG
    subst hG
    exact zT.ret ⟨by dsimp only; cases w : (sub b).1; rfl; exact absurd w q, hE1, h1⟩
  rw [if_pos q] at hG
  generalize hb1 : (sub b).2.1 = b' at h1 hG g1 g2
  generalize hm1 : (sub b).2.2 = m at h1 hG g1
  by_cases hg : gmem tx to [60, 62, 61] b' = true
  · obtain ⟨hlt, hin⟩ := gmem_lt hg
    have hin : tx b' = 60 ∨ tx b' = 62 ∨ tx b' = 61 := by simpa using hin
    obtain ⟨g4, g5, g6⟩ := hB (b' + 1) (by omega)
    refine zT.bnT (p_takes h1 g2 ht 60) ?_
    rintro ⟨_, s2⟩ ⟨rfl, hE2, h2⟩
    dsimp only at *
    rw [gis_b hlt] at h2 ⊢
    refine zT.jnQ (fun y => y.1 = xph (2000 + tx b') ∧ y.1 ≠ 0 ∧ zE (pxp o) s y.2 ∧ PX tx to o y.2 (b' + 1) (ms ++ m)) ?_ ?_
    · rintro ⟨v, y⟩ ⟨hv, hv0, hE3, h3⟩
      dsimp only at *
      refine zT.ie hv0 (zT.bnT (hF (b' + 1) (ms ++ m) y h3 (by omega) (by rw [List.length_append]; omega)) ?_)
      rintro ⟨_, s4⟩ ⟨rfl, hE4, h4⟩
      dsimp only at *
      refine zT.ite (fun q4 => ?_) (fun q4 => ?_)
      · refine zT.gu (P_isO h4) (zT.bnT (p_append h4 (m := 2000 + tx b') (by rw [List.length_append, List.length_append]; omega) hv) ?_)
        rintro s5 ⟨hE5, h5⟩
        rw [gLoop_yes hg, if_pos q4, if_pos rfl] at hG
        subst hG
        refine zT.ret ⟨rfl, hE3.trans (hE4.trans hE5), ?_⟩
        dsimp only
        have e : ms ++ (m ++ ((sub (b' + 1)).2.2 ++ [2000 + tx b'])) = ms ++ m ++ (sub (b' + 1)).2.2 ++ [2000 + tx b'] := by
          simp only [List.append_assoc]
        rw [e]
        exact h5
      · rw [gLoop_stop hg q4] at hG
        subst hG
        refine zT.ret ⟨rfl, hE3.trans hE4, ?_⟩
        dsimp only
        rw [← List.append_assoc]
        exact h4
    · intro j10 hj10
      by_cases e1 : tx b' = 60
      · rw [decide_eq_true e1] at h2 ⊢
        exact zT.it rfl (hj10 _ ⟨by rw [e1]; exact (show (133 : Int32) = xph (2000 + 60) by decide), by show (133 : Int32) ≠ 0; decide, hE1.trans hE2, h2⟩)
      · rw [decide_eq_false e1] at h2 ⊢
        replace h2 : PX tx to o s2 b' (ms ++ m) := h2
        refine zT.ie (by decide) (zT.bnT (p_takes h2 g2 ht 62) ?_)
        rintro ⟨_, s3⟩ ⟨rfl, hE3, h3⟩
        dsimp only at *
        rw [gis_b hlt] at h3 ⊢
        by_cases e2 : tx b' = 62
        · rw [decide_eq_true e2] at h3 ⊢
          exact zT.it rfl (hj10 _ ⟨by rw [e2]; exact (show (134 : Int32) = xph (2000 + 62) by decide), by show (134 : Int32) ≠ 0; decide, hE1.trans (hE2.trans hE3), h3⟩)
        · rw [decide_eq_false e2] at h3 ⊢
          replace h3 : PX tx to o s3 b' (ms ++ m) := h3
          have e3 : tx b' = 61 := by rcases hin with w | w | w; exact absurd w e1; exact absurd w e2; exact w
          refine zT.ie (by decide) (zT.bnT (p_takes h3 g2 ht 61) ?_)
          rintro ⟨_, s4⟩ ⟨rfl, hE4, h4⟩
          dsimp only at *
          rw [gis_b hlt, decide_eq_true e3] at h4 ⊢
          exact zT.it rfl (hj10 _ ⟨by rw [e3]; exact (show (135 : Int32) = xph (2000 + 61) by decide), by show (135 : Int32) ≠ 0; decide, hE1.trans (hE2.trans (hE3.trans hE4)), h4⟩)
  · have hg : gmem tx to [60, 62, 61] b' = false := by cases w : gmem tx to [60, 62, 61] b'; rfl; exact absurd w hg
    rw [gLoop_no hg] at hG
    subst hG
    have ng : ∀ c ∈ ([60, 62, 61] : List Int32), gis tx to c b' = false := fun c hc => by
      cases w : gis tx to c b'
      · rfl
      · exfalso
        obtain ⟨w1, w2⟩ := gis_lt w
        unfold gmem at hg
        rw [decide_eq_true w1, w2, decide_eq_true hc] at hg
        cases hg
    refine zT.bnT (p_takes h1 g2 ht 60) ?_
    rintro ⟨_, s2⟩ ⟨rfl, hE2, h2⟩
    dsimp only at *
    rw [ng 60 (by decide)] at h2 ⊢
    replace h2 : PX tx to o s2 b' (ms ++ m) := h2
    refine zT.jo (zT.ie (by decide) (zT.bnT (p_takes h2 g2 ht 62) ?_))
    rintro ⟨_, s3⟩ ⟨rfl, hE3, h3⟩
    dsimp only at *
    rw [ng 62 (by decide)] at h3 ⊢
    replace h3 : PX tx to o s3 b' (ms ++ m) := h3
    refine zT.ie (by decide) (zT.bnT (p_takes h3 g2 ht 61) ?_)
    rintro ⟨_, s4⟩ ⟨rfl, hE4, h4⟩
    dsimp only at *
    rw [ng 61 (by decide)] at h4 ⊢
    replace h4 : PX tx to o s4 b' (ms ++ m) := h4
    exact zT.ie (by decide) (zT.it rfl (zT.ret ⟨rfl, hE1.trans (hE2.trans (hE3.trans hE4)), h4⟩))
theorem x_anyT {n : Nat} {A : ZPF} {z : Bool} {G : Nat → PR} {a0 : Int32} (hn : 100 < n) (ht : to ≤ 60) (hz : z = true ↔ a0 < 4) (hA : z = true → SX' tx to o (A (a0 + 1)) G) (hB : z = true → GB to G) : SX' tx to o (f_P_anyOf (fx_P_allOf n A) n a0) (gAny tx to (gThing tx to z G)) := by
  have B0 : GB to (gThing tx to z G) := gThing_B (by cases z; exact Or.inr rfl; exact Or.inl (hB rfl))
  have s0 : SX' tx to o (fx_P_thing A a0) (gThing tx to z G) := x_thing ht hz hA hB
  have s1 : SX' tx to o (fx_P_denied n A a0) (gDen tx to (gThing tx to z G)) := x_denied hn ht s0 B0
  have s2 : SX' tx to o (fx_P_sum n A a0) (gSum tx to (gThing tx to z G)) := x_sum hn ht s1 (gDen_B B0)
  have s3 : SX' tx to o (fx_P_compared n A a0) (gCmp tx to (gThing tx to z G)) := x_cmp ht s2 (gSum_B B0)
  have s4 : SX' tx to o (fx_P_allOf n A a0) (gAll tx to (gThing tx to z G)) := x_loop1 (c := 38) (it := 132) hn ht (by decide) s3 (gCmp_B B0)
  exact x_loop1 (c := 124) (it := 131) hn ht (by decide) s4 (gAll_B B0)
theorem x_any {n : Nat} (hn : 100 < n) (ht : to ≤ 60) : ∀ r q, r ≤ 4 → r < q → SX' tx to o (fx_P_anyOf n q (nI (4 - r))) (gRc tx to r) := by
  intro r
  induction r with
  | zero =>
    intro q _ hq
    obtain ⟨q, rfl⟩ : ∃ q', q = q' + 1 := ⟨q - 1, by omega⟩
    exact x_anyT hn ht (z := false) ⟨fun w => (by cases w), fun w => absurd w (by decide)⟩ (fun w => (by cases w)) (fun w => (by cases w))
  | succ r ih =>
    intro q hr hq
    obtain ⟨q, rfl⟩ : ∃ q', q = q' + 1 := ⟨q - 1, by omega⟩
    refine x_anyT hn ht (z := true) ⟨fun _ => by rw [show (4 : Int32) = nI 4 from rfl, nI_ltI (by omega) (by omega)]; omega, fun _ => rfl⟩ (fun _ => ?_) (fun _ => gRc_B r)
    rw [nI_1, show 4 - (r + 1) + 1 = 4 - r by omega]
    exact ih q (by omega) (by omega)
end
end Z92
