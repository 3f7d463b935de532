-- what the search finds, plainly
section Z70
def ext (Q Q' : ZQ) : Prop := Q.1 ≤ Q'.1 ∧ ∀ j, j < Q.1 → Q'.2.1 j = Q.2.1 j ∧ Q'.2.2.1 j = Q.2.2.1 j ∧ Q'.2.2.2.1 j = Q.2.2.2.1 j ∧ Q'.2.2.2.2 j = Q.2.2.2.2 j
theorem ext.refl (Q : ZQ) : ext Q Q := ⟨Nat.le_refl _, fun _ _ => ⟨rfl, rfl, rfl, rfl⟩⟩
theorem ext.trans {Q Q' R : ZQ} (h : ext Q Q') (k : ext Q' R) : ext Q R := ⟨Nat.le_trans h.1 k.1, fun j hj => by
  obtain ⟨a, b, c, d⟩ := h.2 j hj
  obtain ⟨a', b', c', d'⟩ := k.2 j (Nat.lt_of_lt_of_le hj h.1)
  exact ⟨a'.trans a, b'.trans b, c'.trans c, d'.trans d⟩⟩
/-- whence: from an earlier one, or from none -/
def qtr (Q : ZQ) : Prop := ∀ k, k < Q.1 → (Q.2.2.1 k = -1 ∧ Q.2.2.2.2 k = 0) ∨ ∃ j, j < k ∧ Q.2.2.1 k = nI j ∧ Q.2.2.2.2 k = Q.2.2.2.2 j + 1
def qOK (Q : ZQ) : Prop := qds Q ∧ Q.1 ≤ 5000 ∧ qtr Q
theorem qtr.le {Q : ZQ} (h : qtr Q) : ∀ m k, k < m → k < Q.1 → Q.2.2.2.2 k ≤ k := by
  intro m
  induction m with
  | zero => intro k h; exact absurd h (Nat.not_lt_zero _)
  | succ m ih =>
    intro k hk hq
    rcases h k hq with ⟨_, e⟩ | ⟨j, hj, _, e⟩
    · rw [e]; exact Nat.zero_le _
    · have := ih j (by omega) (by omega)
      rw [e]; omega
theorem qtr.dle {Q : ZQ} (h : qtr Q) {k : Nat} (hk : k < Q.1) : Q.2.2.2.2 k ≤ k := h.le (k + 1) k (Nat.lt_succ_self _) hk
theorem qat_ext {Q Q' : ZQ} {c : Nat} (h : ext Q Q') (h' : qds Q') (hc : qat Q c < Q.1) : qat Q' c = qat Q c := by
  rcases qat_cases Q c with ⟨h1, h2⟩ | ⟨h1, _⟩
  · have e := (h.2 _ h1).1
    have := qat_in h' (i := qat Q c) (Nat.lt_of_lt_of_le h1 h.1)
    rw [e, h2] at this
    exact this
  · omega
theorem ups_lt {α : Type} (f : Nat → α) {t k : Nat} (m : α) (h : k < t) : ups f t m k = f k := by rw [ups_i, if_neg (by omega)]
theorem qput_sp {Q Q' : ZQ} {c d k : Nat} {f b : Int32} (h : qput Q c f b d = some (k, Q')) (hQ : qOK Q) (hf : (f = -1 ∧ d = 0) ∨ ∃ i, i < Q.1 ∧ f = nI i ∧ d = Q.2.2.2.2 i + 1) : ext Q Q' ∧ qOK Q' ∧ k = qat Q' c ∧ k < Q'.1 := by
  obtain ⟨h1, h2, h3⟩ := hQ
  unfold qput at h
  by_cases q : qat Q c < Q.1
  · rw [if_pos q] at h
    cases h
    exact ⟨ext.refl _, ⟨h1, h2, h3⟩, rfl, q⟩
  · rw [if_neg q] at h
    by_cases q2 : Q.1 < 5000
    · rw [if_pos q2] at h
      cases h
      have hn : ∀ i, i < Q.1 → Q.2.1 i ≠ c := by
        rcases qat_cases Q c with ⟨g, _⟩ | ⟨_, g⟩
        · exact absurd g q
        · exact g
      have hd : qds (qadd Q c f b d) := qds_add h1 hn
      refine ⟨⟨Nat.le_succ _, fun j hj => ⟨ups_lt _ _ hj, ups_lt _ _ hj, ups_lt _ _ hj, ups_lt _ _ hj⟩⟩, ⟨hd, q2, fun k hk => ?_⟩, ?_, Nat.lt_succ_self _⟩
      · have hk : k < Q.1 + 1 := hk
        show (ups Q.2.2.1 Q.1 f k = -1 ∧ ups Q.2.2.2.2 Q.1 d k = 0) ∨ ∃ j, j < k ∧ ups Q.2.2.1 Q.1 f k = nI j ∧ ups Q.2.2.2.2 Q.1 d k = ups Q.2.2.2.2 Q.1 d j + 1
        by_cases e : k = Q.1
        · subst e
          rw [ups_s, ups_s]
          rcases hf with hf | ⟨i, hi, e1, e2⟩
          · exact Or.inl hf
          · exact Or.inr ⟨i, hi, e1, by rw [ups_lt _ _ hi]; exact e2⟩
        · have hk : k < Q.1 := by omega
          rw [ups_lt _ _ hk, ups_lt _ _ hk]
          rcases h3 k hk with g | ⟨j, hj, e1, e2⟩
          · exact Or.inl g
          · exact Or.inr ⟨j, hj, e1, by rw [ups_lt _ _ (Nat.lt_trans hj hk)]; exact e2⟩
      · have := qat_in hd (i := Q.1) (Nat.lt_succ_self _)
        have e : (qadd Q c f b d).2.1 Q.1 = c := ups_s _ _ _
        rw [e] at this
        exact this.symm
    · rw [if_neg q2] at h
      cases h
theorem qput_none {Q : ZQ} {c d : Nat} {f b : Int32} (h : qput Q c f b d = none) : 5000 ≤ Q.1 ∧ ∀ i, i < Q.1 → Q.2.1 i ≠ c := by
  unfold qput at h
  by_cases q : qat Q c < Q.1
  · rw [if_pos q] at h; cases h
  · rw [if_neg q] at h
    by_cases q2 : Q.1 < 5000
    · rw [if_pos q2] at h; cases h
    · refine ⟨by omega, ?_⟩
      rcases qat_cases Q c with ⟨g, _⟩ | ⟨_, g⟩
      · exact absurd g q
      · exact g
/-- more than can be found -/
def big (P : Nat → Prop) : Prop := ∃ g : Nat → Nat, (∀ k, k < 5001 → P (g k)) ∧ ∀ i j, i < 5001 → j < 5001 → g i = g j → i = j
theorem bacts_sp {i : Nat} {P : Nat → Prop} : ∀ (l : List (Nat × Nat)) (Q : ZQ) (es : List Nat) (Q' : ZQ) (es' : List Nat), bacts l i Q es = some (Q', es') → qOK Q → i < Q.1 → (∀ k, k < Q.1 → P (Q.2.1 k)) → (∀ p, p ∈ l → P p.2) →
    ext Q Q' ∧ qOK Q' ∧ es' = es ++ l.map (fun p => qat Q' p.2) ∧ (∀ p, p ∈ l → qat Q' p.2 < Q'.1) ∧ ∀ k, k < Q'.1 → P (Q'.2.1 k)
  | [], Q, es, Q', es', h, hQ, hi, hP, hl => by
    cases h
    exact ⟨ext.refl _, hQ, (List.append_nil _).symm, fun p hp => absurd hp (by simp), hP⟩
  | (a, c) :: r, Q, es, Q', es', h, hQ, hi, hP, hl => by
    have h : (match qput Q c (nI i) (nI a) (Q.2.2.2.2 i + 1) with
      | none => none
      | some (k, Q') => bacts r i Q' (es ++ [k])) = some (Q', es') := h
    cases hq : qput Q c (nI i) (nI a) (Q.2.2.2.2 i + 1) with
    | none => rw [hq] at h; cases h
    | some w =>
      obtain ⟨k, Q2⟩ := w
      rw [hq] at h
      obtain ⟨p1, p2, p3, p4⟩ := qput_sp hq hQ (Or.inr ⟨i, hi, rfl, rfl⟩)
      have hP2 := qput_all (R := P) hq hP (hl (a, c) (by simp))
      obtain ⟨r1, r2, r3, r4, r5⟩ := bacts_sp r Q2 (es ++ [k]) Q' es' h p2 (Nat.lt_of_lt_of_le hi p1.1) hP2 (fun p hp => hl p (List.mem_cons_of_mem _ hp))
      have e : qat Q' c = k := by rw [p3]; exact qat_ext r1 r2.1 (by rw [← p3]; exact p4)
      refine ⟨p1.trans r1, r2, ?_, fun p hp => ?_, r5⟩
      · rw [r3, List.append_assoc, List.map_cons]
        show es ++ ([k] ++ _) = es ++ (qat Q' c :: _)
        rw [e]
        rfl
      · rcases List.mem_cons.mp hp with hp | hp
        · rw [hp]
          show qat Q' c < Q'.1
          rw [e]
          exact Nat.lt_of_lt_of_le p4 r1.1
        · exact r4 p hp
theorem bacts_no {i : Nat} {P : Nat → Prop} : ∀ (l : List (Nat × Nat)) (Q : ZQ) (es : List Nat), bacts l i Q es = none → qOK Q → i < Q.1 → (∀ k, k < Q.1 → P (Q.2.1 k)) → (∀ p, p ∈ l → P p.2) → big P
  | [], Q, es, h, hQ, hi, hP, hl => by cases h
  | (a, c) :: r, Q, es, h, hQ, hi, hP, hl => by
    have h : (match qput Q c (nI i) (nI a) (Q.2.2.2.2 i + 1) with
      | none => none
      | some (k, Q') => bacts r i Q' (es ++ [k])) = none := h
    cases hq : qput Q c (nI i) (nI a) (Q.2.2.2.2 i + 1) with
    | none =>
      obtain ⟨g1, g2⟩ := qput_none hq
      have e5 : Q.1 = 5000 := by have := hQ.2.1; omega
      refine ⟨ups Q.2.1 5000 c, fun k hk => ?_, fun x y hx hy e => ?_⟩
      · rw [ups_i]
        split
        · exact hl (a, c) (by simp)
        · exact hP k (by omega)
      · rw [ups_i, ups_i] at e
        by_cases q1 : x = 5000
        · by_cases q2 : y = 5000
          · omega
          · rw [if_pos q1, if_neg q2] at e
            exact absurd e.symm (g2 y (by omega))
        · by_cases q2 : y = 5000
          · rw [if_neg q1, if_pos q2] at e
            exact absurd e (g2 x (by omega))
          · rw [if_neg q1, if_neg q2] at e
            exact hQ.1 x y (by omega) (by omega) e
    | some w =>
      obtain ⟨k, Q2⟩ := w
      rw [hq] at h
      obtain ⟨p1, p2, p3, p4⟩ := qput_sp hq hQ (Or.inr ⟨i, hi, rfl, rfl⟩)
      have hP2 := qput_all (R := P) hq hP (hl (a, c) (by simp))
      exact bacts_no r Q2 (es ++ [k]) h p2 (Nat.lt_of_lt_of_le hi p1.1) hP2 (fun p hp => hl p (List.mem_cons_of_mem _ hp))
/-- the first i have all that follow them among those found -/
def qcl (suc : Nat → List (Nat × Nat)) (i : Nat) (Q : ZQ) (ed : Nat → List Nat) : Prop := ∀ j, j < i → ed j = (suc (Q.2.1 j)).map (fun p => qat Q p.2) ∧ ∀ p, p ∈ suc (Q.2.1 j) → qat Q p.2 < Q.1
theorem qcl.ext {suc : Nat → List (Nat × Nat)} {i : Nat} {Q Q' : ZQ} {ed : Nat → List Nat} (h : qcl suc i Q ed) (hi : i ≤ Q.1) (hE : ext Q Q') (hd : qds Q') : qcl suc i Q' ed := by
  intro j hj
  obtain ⟨h1, h2⟩ := h j hj
  rw [(hE.2 j (by omega)).1]
  refine ⟨h1.trans (List.map_congr_left (fun p hp => (qat_ext hE hd (h2 p hp)).symm)), fun p hp => ?_⟩
  rw [qat_ext hE hd (h2 p hp)]
  exact Nat.lt_of_lt_of_le (h2 p hp) hE.1
theorem bfs_sp {suc : Nat → List (Nat × Nat)} {P : Nat → Prop} (hP : ∀ y b x, P y → (b, x) ∈ suc y → P x) : ∀ (m i : Nat) (Q : ZQ) (ed : Nat → List Nat) (Q' : ZQ) (ed' : Nat → List Nat), bfs suc m i Q ed = some (Q', ed') → qOK Q → 5000 < m + i → i ≤ Q.1 → (∀ k, k < Q.1 → P (Q.2.1 k)) → qcl suc i Q ed → ext Q Q' ∧ qOK Q' ∧ (∀ k, k < Q'.1 → P (Q'.2.1 k)) ∧ qcl suc Q'.1 Q' ed'
  | 0, i, Q, ed, Q', ed', h, hQ, hm, hi, hA, hc => by
    have := hQ.2.1
    omega
  | m + 1, i, Q, ed, Q', ed', h, hQ, hm, hi, hA, hc => by
    rw [bfs_s] at h
    by_cases q : i < Q.1
    · rw [if_pos q] at h
      cases hb : bacts (suc (Q.2.1 i)) i Q [] with
      | none => rw [hb] at h; cases h
      | some w =>
        obtain ⟨Q2, es⟩ := w
        rw [hb] at h
        obtain ⟨b1, b2, b3, b4, b5⟩ := bacts_sp (P := P) _ _ _ _ _ hb hQ q hA (fun p hp => hP (Q.2.1 i) p.1 p.2 (hA i q) hp)
        have hc2 : qcl suc (i + 1) Q2 (ups ed i es) := by
          intro j hj
          by_cases e : j = i
          · subst e
            rw [ups_s, (b1.2 j q).1, b3, List.nil_append]
            exact ⟨rfl, b4⟩
          · rw [ups_n _ _ e]
            exact (hc.ext hi b1 b2.1) j (by omega)
        obtain ⟨r1, r2⟩ := bfs_sp hP m (i + 1) Q2 (ups ed i es) Q' ed' h b2 (by omega) (by have := b1.1; omega) b5 hc2
        exact ⟨b1.trans r1, r2⟩
    · rw [if_neg q] at h
      cases h
      exact ⟨ext.refl _, hQ, hA, by rw [show Q.1 = i by omega]; exact hc⟩
theorem bfs_no {suc : Nat → List (Nat × Nat)} {P : Nat → Prop} (hP : ∀ y b x, P y → (b, x) ∈ suc y → P x) : ∀ (m i : Nat) (Q : ZQ) (ed : Nat → List Nat), bfs suc m i Q ed = none → qOK Q → (∀ k, k < Q.1 → P (Q.2.1 k)) → big P
  | 0, i, Q, ed, h, hQ, hA => by cases h
  | m + 1, i, Q, ed, h, hQ, hA => by
    rw [bfs_s] at h
    by_cases q : i < Q.1
    · rw [if_pos q] at h
      cases hb : bacts (suc (Q.2.1 i)) i Q [] with
      | none => exact bacts_no (P := P) _ _ _ hb hQ q hA (fun p hp => hP (Q.2.1 i) p.1 p.2 (hA i q) hp)
      | some w =>
        obtain ⟨Q2, es⟩ := w
        rw [hb] at h
        obtain ⟨b1, b2, b3, b4, b5⟩ := bacts_sp (P := P) _ _ _ _ _ hb hQ q hA (fun p hp => hP (Q.2.1 i) p.1 p.2 (hA i q) hp)
        exact bfs_no hP m (i + 1) Q2 (ups ed i es) h b2 b5
    · rw [if_neg q] at h
      cases h
/-- one state to begin with -/
def q1 (c : Nat) : ZQ := qadd q0 c (-1) (-1) 0
theorem q1_put (c : Nat) : qput q0 c (-1) (-1) 0 = some (0, q1 c) := rfl
theorem q1_at (c : Nat) : (q1 c).2.1 0 = c := rfl
theorem q0_OK : qOK q0 := ⟨fun i j hi => absurd hi (Nat.not_lt_zero _), Nat.zero_le _, fun k hk => absurd hk (Nat.not_lt_zero _)⟩
theorem q1_OK (c : Nat) : qOK (q1 c) := (qput_sp (q1_put c) q0_OK (Or.inl ⟨rfl, rfl⟩)).2.1
theorem q1_all {P : Nat → Prop} {c : Nat} (h : P c) : ∀ k, k < (q1 c).1 → P ((q1 c).2.1 k) := by
  intro k hk
  have : k = 0 := by have hk : k < 0 + 1 := hk; omega
  subst this
  exact h
/-- the search from one state -/
def sch (suc : Nat → List (Nat × Nat)) (c : Nat) : Option (ZQ × (Nat → List Nat)) := bfs suc 5001 0 (q1 c) (fun _ => [])
def rch (suc : Nat → List (Nat × Nat)) (c : Nat) : Nat → Nat → Prop
  | 0, x => x = c
  | k + 1, x => ∃ y b, rch suc c k y ∧ (b, x) ∈ suc y
def rea (suc : Nat → List (Nat × Nat)) (c x : Nat) : Prop := ∃ k, rch suc c k x
section
variable {suc : Nat → List (Nat × Nat)} {c x y b : Nat}
theorem rea.refl (suc : Nat → List (Nat × Nat)) (c : Nat) : rea suc c c := ⟨0, rfl⟩
theorem rea.step (h : rea suc c y) (hm : (b, x) ∈ suc y) : rea suc c x := by
  obtain ⟨k, hk⟩ := h
  exact ⟨k + 1, y, b, hk, hm⟩
theorem rea.ind {P : Nat → Prop} (h : rea suc c x) (h0 : P c) (hs : ∀ y b x, P y → (b, x) ∈ suc y → P x) : P x := by
  obtain ⟨k, hk⟩ := h
  revert x
  induction k with
  | zero => intro x hk; have : x = c := hk; rw [this]; exact h0
  | succ k ih =>
    intro x hk
    obtain ⟨y, b, h1, h2⟩ := hk
    exact hs y b x (ih h1) h2
theorem rea.trans {z : Nat} (h : rea suc c y) (h2 : rea suc y z) : rea suc c z := h2.ind (P := fun z => rea suc c z) h (fun _ _ _ h hm => h.step hm)
theorem sch_some {Q : ZQ} {ed : Nat → List Nat} (h : sch suc c = some (Q, ed)) : qOK Q ∧ 0 < Q.1 ∧ Q.2.1 0 = c ∧ Q.2.2.2.2 0 = 0 ∧ qcl suc Q.1 Q ed ∧ ∀ x, (∃ k, k < Q.1 ∧ Q.2.1 k = x) ↔ rea suc c x := by
  obtain ⟨r1, r2, r3, r4⟩ := bfs_sp (P := fun x => rea suc c x) (fun _ _ _ h hm => h.step hm) _ _ _ _ _ _ h (q1_OK c) (by omega) (Nat.zero_le _) (q1_all (rea.refl suc c)) (fun j hj => absurd hj (Nat.not_lt_zero _))
  have hp : 0 < (q1 c).1 := Nat.lt_succ_self 0
  have h0 : 0 < Q.1 := Nat.lt_of_lt_of_le hp r1.1
  obtain ⟨e1, e2, e3, e4⟩ := r1.2 0 hp
  refine ⟨r2, h0, e1, e4, r4, fun x => ⟨fun ⟨k, hk, e⟩ => by rw [← e]; exact r3 k hk, fun hx => ?_⟩⟩
  refine hx.ind (P := fun x => ∃ k, k < Q.1 ∧ Q.2.1 k = x) ⟨0, h0, e1⟩ ?_
  rintro y b x ⟨k, hk, rfl⟩ hm
  have hq := (r4 k hk).2 (b, x) hm
  rcases qat_cases Q x with ⟨g1, g2⟩ | ⟨g1, _⟩
  · exact ⟨_, g1, g2⟩
  · exact absurd hq (by show ¬ qat Q x < Q.1; omega)
theorem sch_none (h : sch suc c = none) : big (fun x => rea suc c x) := bfs_no (fun _ _ _ h hm => h.step hm) _ _ _ _ h (q1_OK c) (q1_all (rea.refl suc c))
theorem pinj : ∀ (n k : Nat) (g : Nat → Nat), (∀ i, i < k → g i < n) → (∀ i j, i < k → j < k → g i = g j → i = j) → k ≤ n := by
  intro n k g h1 h2
  rcases Nat.lt_or_ge n k with q | q
  · exfalso
    obtain ⟨j, hj, e⟩ := inj_surj n g (fun j hj => h1 j (by omega)) (fun i j hi hj e => by have := h2 i j (by omega) (by omega) e; omega) (g n) (h1 n q)
    have := h2 j n (by omega) q e
    omega
  · exact q
theorem big_no {P : Nat → Prop} {Q : ZQ} (hb : big P) (hQ : Q.1 ≤ 5000) (h : ∀ x, P x → ∃ k, k < Q.1 ∧ Q.2.1 k = x) : False := by
  obtain ⟨g, g1, g2⟩ := hb
  have key : ∀ i, ∃ k, i < 5001 → k < Q.1 ∧ Q.2.1 k = g i := fun i => by
    by_cases q : i < 5001
    · obtain ⟨k, hk⟩ := h (g i) (g1 i q)
      exact ⟨k, fun _ => hk⟩
    · exact ⟨0, fun w => absurd w q⟩
  have hch : ∃ u : Nat → Nat, ∀ i, i < 5001 → u i < Q.1 ∧ Q.2.1 (u i) = g i := ⟨fun i => Classical.choose (key i), fun i => Classical.choose_spec (key i)⟩
  obtain ⟨u, hu⟩ := hch
  have := pinj Q.1 5001 u (fun i hi => (hu i hi).1) (fun i j hi hj e => g2 i j hi hj (by rw [← (hu i hi).2, ← (hu j hj).2, e]))
  omega
end
end Z70
