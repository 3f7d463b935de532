-- the grammar, plainly
section Z90
abbrev PR : Type := Bool × Nat × List Int32
def ixo (l : List Int32) (v : Int32) : Int32 := if ff (fun k => decide (l.getD k 0 = v)) l.length < l.length then nI (ff (fun k => decide (l.getD k 0 = v)) l.length) else -1
def L0 : List Int32 := [97, 98, 99, 100, 101, 102, 103, 104, 105, 106, 107, 108, 110, 114, 116]
theorem ixo_in {l : List Int32} {v : Int32} (h : v ∈ l) : ff (fun k => decide (l.getD k 0 = v)) l.length < l.length := by
  obtain ⟨k, hk, e⟩ := List.getElem_of_mem h
  obtain ⟨_, r2, _⟩ := ff_sp (p := fun k => decide (l.getD k 0 = v)) hk (decide_eq_true (by rw [List.getD_eq_getElem?_getD, List.getElem?_eq_getElem hk]; exact e))
  omega
theorem ixo_neg {l : List Int32} {v : Int32} (hl : l.length < 2 ^ 31) : ixo l v < 0 ↔ ¬ v ∈ l := by
  unfold ixo
  by_cases q : v ∈ l
  · rw [if_pos (ixo_in q)]
    have := ixo_in q
    exact ⟨fun w => absurd w (nI_nneg (by omega)), fun w => absurd q w⟩
  · refine ⟨fun _ => q, fun _ => ?_⟩
    rw [if_neg (fun w => q ?_)]
    · decide
    · have hs := ff_no (p := fun k => decide (l.getD k 0 = v)) (n := l.length) (fun k hk => decide_eq_false (fun e => q (by
        rw [← e, List.getD_eq_getElem?_getD, List.getElem?_eq_getElem hk]
        exact List.getElem_mem hk)))
      omega
section
variable (tx : Nat → Int32) (to : Nat)
def gdig (b : Nat) : Bool := decide (b < to) && (decide (48 ≤ tx b) && decide (tx b ≤ 57))
def gis (c : Int32) (b : Nat) : Bool := decide (b < to) && decide (tx b = c)
def gmem (l : List Int32) (b : Nat) : Bool := decide (b < to) && decide (tx b ∈ l)
def gThing (z : Bool) (A : Nat → PR) (b : Nat) : PR :=
  if gis tx to 40 b = true then (if z = true then (if (A (b + 1)).1 = true then (if gis tx to 41 (A (b + 1)).2.1 = true then (true, (A (b + 1)).2.1 + 1, (A (b + 1)).2.2) else (false, (A (b + 1)).2.1, (A (b + 1)).2.2)) else (false, (A (b + 1)).2.1, (A (b + 1)).2.2)) else (false, b, []))
  else if gdig tx to b = true then (if gdig tx to (b + 1) = true then (true, b + 2, [10 * (tx b - 48) + tx (b + 1) - 48]) else (true, b + 1, [tx b - 48]))
  else if gmem tx to L0 b = true then (true, b + 1, [1000 + ixo L0 (tx b)]) else (false, b, [])
def bang (r : PR) : PR := if r.1 = true then (true, r.2.1, r.2.2 ++ [2033]) else r
def gD (T : Nat → PR) : Nat → Nat → PR
  | 0, b => T b
  | f + 1, b => if gis tx to 33 b = true then bang (gD T f (b + 1)) else T b
def gDen (T : Nat → PR) (b : Nat) : PR := gD tx to T (to - b) b
def gLoop (one : Bool) (ops : List Int32) (sub : Nat → PR) : Nat → Nat → List Int32 → PR
  | 0, b, ms => (true, b, ms)
  | f + 1, b, ms => if gmem tx to ops b = true then (if (sub (b + 1)).1 = true then (if one = true then (true, (sub (b + 1)).2.1, ms ++ ((sub (b + 1)).2.2 ++ [2000 + tx b])) else gLoop one ops sub f (sub (b + 1)).2.1 (ms ++ ((sub (b + 1)).2.2 ++ [2000 + tx b]))) else (false, (sub (b + 1)).2.1, ms ++ (sub (b + 1)).2.2)) else (true, b, ms)
def gBin (one : Bool) (ops : List Int32) (sub : Nat → PR) (b : Nat) : PR :=
  if (sub b).1 = true then gLoop tx to one ops sub (to - (sub b).2.1) (sub b).2.1 (sub b).2.2 else sub b
def gSum (T : Nat → PR) : Nat → PR := gBin tx to false [43, 45] (gDen tx to T)
def gCmp (T : Nat → PR) : Nat → PR := gBin tx to true [60, 62, 61] (gSum tx to T)
def gAll (T : Nat → PR) : Nat → PR := gBin tx to false [38] (gCmp tx to T)
def gAny (T : Nat → PR) : Nat → PR := gBin tx to false [124] (gAll tx to T)
/-- so many nests are left -/
def gRc : Nat → Nat → PR
  | 0 => gAny tx to (gThing tx to false (fun _ => (false, 0, [])))
  | r + 1 => gAny tx to (gThing tx to true (gRc r))
end
/-- one thing more behind -/
def stpD (δ : Nat) (m : Int32) : Nat := if m < 2000 then δ + 1 else if m = 2033 then δ else δ - 1
def dlt (δ : Nat) : List Int32 → Nat
  | [] => δ
  | m :: r => dlt (stpD δ m) r
def okl (δ : Nat) : List Int32 → Prop
  | [] => True
  | m :: r => isMk m ∧ (¬ m < 2000 → 1 ≤ δ) ∧ (¬ m < 2000 → m ≠ 2033 → 2 ≤ δ) ∧ okl (stpD δ m) r
theorem dlt_app (δ : Nat) (l r : List Int32) : dlt δ (l ++ r) = dlt (dlt δ l) r := by
  induction l generalizing δ with
  | nil => rfl
  | cons m l ih => exact ih _
theorem okl_app (δ : Nat) (l r : List Int32) : okl δ (l ++ r) ↔ okl δ l ∧ okl (dlt δ l) r := by
  induction l generalizing δ with
  | nil => exact ⟨fun h => ⟨trivial, h⟩, fun h => h.2⟩
  | cons m l ih =>
    show (isMk m ∧ _ ∧ _ ∧ okl (stpD δ m) (l ++ r)) ↔ (isMk m ∧ _ ∧ _ ∧ okl (stpD δ m) l) ∧ okl (dlt (stpD δ m) l) r
    rw [ih]
    exact ⟨fun ⟨a, b, c, d, e⟩ => ⟨⟨a, b, c, d⟩, e⟩, fun ⟨⟨a, b, c, d⟩, e⟩ => ⟨a, b, c, d, e⟩⟩
/-- an expression's marks -/
def EE (l : List Int32) : Prop := ∀ δ, okl δ l ∧ dlt δ l = δ + 1
theorem EE.one {m : Int32} (h : isMk m) (h2 : m < 2000) : EE [m] := fun δ => ⟨⟨h, fun w => absurd h2 w, fun w => absurd h2 w, trivial⟩, by
  show stpD δ m = _
  unfold stpD; rw [if_pos h2]⟩
theorem mk2033 : isMk 2033 := Or.inr (Or.inr (Or.inl rfl))
theorem EE.not {l : List Int32} (h : EE l) : EE (l ++ [2033]) := fun δ => by
  obtain ⟨h1, h2⟩ := h δ
  rw [okl_app, dlt_app, h2]
  refine ⟨⟨h1, mk2033, fun _ => by omega, fun _ w => absurd rfl w, trivial⟩, ?_⟩
  show stpD (δ + 1) 2033 = δ + 1
  unfold stpD
  rw [if_neg (by decide), if_pos rfl]
theorem EE.bin {l r : List Int32} {m : Int32} (h : EE l) (k : EE r) (hm : isMk m) (h1 : ¬ m < 2000) (h2 : m ≠ 2033) : EE (l ++ (r ++ [m])) := fun δ => by
  obtain ⟨a1, a2⟩ := h δ
  obtain ⟨b1, b2⟩ := k (δ + 1)
  rw [okl_app, dlt_app, a2, okl_app, dlt_app, b2]
  refine ⟨⟨a1, b1, hm, fun _ => by omega, fun _ _ => by omega, trivial⟩, ?_⟩
  show stpD (δ + 1 + 1) m = δ + 1
  unfold stpD
  rw [if_neg h1, if_neg h2]
  omega
theorem dpt_dlt (l : List Int32) : ∀ k, k ≤ l.length → dpt (lF l) k = dlt 0 (l.take k) := by
  intro k
  induction k with
  | zero => intro _; rfl
  | succ k ih =>
    intro hk
    rw [dpt_s, ih (by omega), take_s (by omega), dlt_app]
    rfl
theorem okl_wf (l : List Int32) (h : okl 0 l) (hl : l.length ≤ 60) : wfL l := by
  refine ⟨hl, fun k hk => ?_⟩
  have e : l = l.take k ++ (lF l k :: l.drop (k + 1)) := by
    conv => lhs; rw [← List.take_append_drop (k + 1) l, take_s hk, List.append_assoc]
    rfl
  rw [e, okl_app] at h
  obtain ⟨_, h1, h2, h3, _⟩ := h
  rw [← dpt_dlt l k (by omega)] at h2 h3
  exact ⟨h1, h2, h3⟩
-- bounds, and what a good one's marks are
section
variable {tx : Nat → Int32} {to : Nat}
def GB (to : Nat) (G : Nat → PR) : Prop := ∀ b, b ≤ to → b + (G b).2.2.length ≤ (G b).2.1 ∧ (G b).2.1 ≤ to ∧ ((G b).1 = true → b < (G b).2.1 ∧ EE (G b).2.2)
theorem gis_lt {c : Int32} {b : Nat} (h : gis tx to c b = true) : b < to ∧ tx b = c := by
  unfold gis at h
  rw [Bool.and_eq_true, decide_eq_true_eq, decide_eq_true_eq] at h
  exact h
theorem gmem_lt {l : List Int32} {b : Nat} (h : gmem tx to l b = true) : b < to ∧ tx b ∈ l := by
  unfold gmem at h
  rw [Bool.and_eq_true, decide_eq_true_eq, decide_eq_true_eq] at h
  exact h
theorem gdig_lt {b : Nat} (h : gdig tx to b = true) : b < to ∧ ∃ d, d < 10 ∧ tx b = nI (48 + d) := by
  unfold gdig at h
  rw [Bool.and_eq_true, Bool.and_eq_true, decide_eq_true_eq, decide_eq_true_eq, decide_eq_true_eq] at h
  refine ⟨h.1, ?_⟩
  rcases nI_cases (tx b) 58 (by decide) with ⟨k, hk, e⟩ | q | q
  · rw [e, show (48 : Int32) = nI 48 from rfl, nI_leI (by omega) (by omega)] at h
    exact ⟨k - 48, by omega, by rw [e]; congr 1; omega⟩
  · exact absurd (Int32.lt_of_lt_of_le q (show (0 : Int32) ≤ 48 by decide)) (Int32.not_lt.mpr h.2.1)
  · exact absurd (Int32.le_trans q h.2.2) (by decide)
theorem mk_num {v : Nat} (h : v < 100) : isMk (nI v) ∧ nI v < 2000 := ⟨Or.inl ⟨v, h, rfl⟩, by rw [show (2000 : Int32) = nI 2000 from rfl, nI_ltI (by omega) (by decide)]; omega⟩
theorem mk_let : ∀ v ∈ L0, isMk (1000 + ixo L0 v) ∧ 1000 + ixo L0 v < 2000 := by
  have key : ∀ v ∈ L0, ∃ k, k < 15 ∧ 1000 + ixo L0 v = nI (1000 + k) := by decide +kernel
  intro v hv
  obtain ⟨k, hk, e⟩ := key v hv
  rw [e]
  exact ⟨Or.inr (Or.inl ⟨k, hk, rfl⟩), by rw [show (2000 : Int32) = nI 2000 from rfl, nI_ltI (by omega) (by decide)]; omega⟩
theorem gThing_B {z : Bool} {A : Nat → PR} (h : GB to A ∨ z = false) : GB to (gThing tx to z A) := by
  intro b hb
  unfold gThing
  by_cases c1 : gis tx to 40 b = true
  · rw [if_pos c1]
    have h1 := (gis_lt c1).1
    by_cases cz : z = true
    · rw [if_pos cz]
      rcases h with h | h
      · obtain ⟨a1, a2, a3⟩ := h (b + 1) (by omega)
        by_cases c2 : (A (b + 1)).1 = true
        · rw [if_pos c2]
          by_cases c3 : gis tx to 41 (A (b + 1)).2.1 = true
          · rw [if_pos c3]
            have h3 := (gis_lt c3).1
            exact ⟨by dsimp only; omega, by dsimp only; omega, fun _ => ⟨by dsimp only; omega, (a3 c2).2⟩⟩
          · rw [if_neg c3]
            exact ⟨by dsimp only; omega, a2, fun w => by cases w⟩
        · rw [if_neg c2]
          exact ⟨by dsimp only; omega, a2, fun w => by cases w⟩
      · rw [h] at cz; cases cz
    · rw [if_neg cz]
      exact ⟨Nat.le_refl _, hb, fun w => by cases w⟩
  · rw [if_neg c1]
    by_cases c2 : gdig tx to b = true
    · rw [if_pos c2]
      obtain ⟨h1, d, hd, e⟩ := gdig_lt c2
      by_cases c3 : gdig tx to (b + 1) = true
      · rw [if_pos c3]
        obtain ⟨h2, d', hd', e'⟩ := gdig_lt c3
        refine ⟨by simp, by dsimp only; omega, fun _ => ⟨by dsimp only; omega, ?_⟩⟩
        have ev : 10 * (tx b - 48) + tx (b + 1) - 48 = nI (10 * d + d') := by
          rw [e, e', show (48 : Int32) = nI 48 from rfl, pk_sub (by omega), show (10 : Int32) = nI 10 from rfl, nI_mulL, nI_add, pk_sub (by omega)]
          congr 1
          omega
        have := mk_num (v := 10 * d + d') (by omega)
        dsimp only
        rw [ev]
        exact EE.one this.1 this.2
      · rw [if_neg c3]
        refine ⟨by simp, by dsimp only; omega, fun _ => ⟨by dsimp only; omega, ?_⟩⟩
        have ev : tx b - 48 = nI d := by
          rw [e, show (48 : Int32) = nI 48 from rfl, pk_sub (by omega)]
          congr 1
          omega
        have := mk_num (v := d) (by omega)
        dsimp only
        rw [ev]
        exact EE.one this.1 this.2
    · rw [if_neg c2]
      by_cases c3 : gmem tx to L0 b = true
      · rw [if_pos c3]
        obtain ⟨h1, h2⟩ := gmem_lt c3
        have := mk_let _ h2
        exact ⟨by simp, by dsimp only; omega, fun _ => ⟨by dsimp only; omega, EE.one this.1 this.2⟩⟩
      · rw [if_neg c3]
        exact ⟨Nat.le_refl _, hb, fun w => by cases w⟩
theorem gD_B {T : Nat → PR} (h : GB to T) : ∀ f b, b ≤ to → b + (gD tx to T f b).2.2.length ≤ (gD tx to T f b).2.1 ∧ (gD tx to T f b).2.1 ≤ to ∧ ((gD tx to T f b).1 = true → b < (gD tx to T f b).2.1 ∧ EE (gD tx to T f b).2.2) := by
  intro f
  induction f with
  | zero => exact h
  | succ f ih =>
    intro b hb
    show b + (if gis tx to 33 b = true then bang (gD tx to T f (b + 1)) else T b).2.2.length ≤ (if gis tx to 33 b = true then bang (gD tx to T f (b + 1)) else T b).2.1 ∧ (if gis tx to 33 b = true then bang (gD tx to T f (b + 1)) else T b).2.1 ≤ to ∧ ((if gis tx to 33 b = true then bang (gD tx to T f (b + 1)) else T b).1 = true → b < (if gis tx to 33 b = true then bang (gD tx to T f (b + 1)) else T b).2.1 ∧ EE (if gis tx to 33 b = true then bang (gD tx to T f (b + 1)) else T b).2.2)
    by_cases c : gis tx to 33 b = true
    · rw [if_pos c]
      have h1 := (gis_lt c).1
      obtain ⟨a1, a2, a3⟩ := ih (b + 1) (by omega)
      unfold bang
      by_cases c2 : (gD tx to T f (b + 1)).1 = true
      · rw [if_pos c2]
        refine ⟨by rw [List.length_append, List.length_singleton]; dsimp only; omega, a2, fun _ => ⟨by dsimp only; omega, (a3 c2).2.not⟩⟩
      · rw [if_neg c2]
        exact ⟨by omega, a2, fun w => absurd w c2⟩
    · rw [if_neg c]
      exact h b hb
theorem gDen_B {T : Nat → PR} (h : GB to T) : GB to (gDen tx to T) := fun b hb => gD_B h _ b hb
def opsOK (ops : List Int32) : Prop := ∀ v ∈ ops, isMk (2000 + v) ∧ ¬ 2000 + v < 2000 ∧ 2000 + v ≠ 2033
theorem gLoop_B {one : Bool} {ops : List Int32} {sub : Nat → PR} (ho : opsOK ops) (h : GB to sub) : ∀ f b ms b0, b ≤ to → b0 + ms.length ≤ b → b0 < b → EE ms → b0 + (gLoop tx to one ops sub f b ms).2.2.length ≤ (gLoop tx to one ops sub f b ms).2.1 ∧ (gLoop tx to one ops sub f b ms).2.1 ≤ to ∧ ((gLoop tx to one ops sub f b ms).1 = true → b0 < (gLoop tx to one ops sub f b ms).2.1 ∧ EE (gLoop tx to one ops sub f b ms).2.2) := by
  intro f
  induction f with
  | zero => intro b ms b0 h1 h2 h3 h4; exact ⟨h2, h1, fun _ => ⟨h3, h4⟩⟩
  | succ f ih =>
    intro b ms b0 h1 h2 h3 h4
    unfold gLoop
    by_cases c : gmem tx to ops b = true
    · rw [if_pos c]
      obtain ⟨g1, g2⟩ := gmem_lt c
      obtain ⟨o1, o2, o3⟩ := ho _ g2
      obtain ⟨a1, a2, a3⟩ := h (b + 1) (by omega)
      by_cases c2 : (sub (b + 1)).1 = true
      · rw [if_pos c2]
        have hE := EE.bin h4 (a3 c2).2 o1 o2 o3
        have hlen : b0 + (ms ++ ((sub (b + 1)).2.2 ++ [2000 + tx b])).length ≤ (sub (b + 1)).2.1 := by
          rw [List.length_append, List.length_append, List.length_singleton]; omega
        by_cases c3 : one = true
        · rw [if_pos c3]
          exact ⟨hlen, a2, fun _ => ⟨by dsimp only; omega, hE⟩⟩
        · rw [if_neg c3]
          exact ih _ _ b0 a2 hlen (by omega) hE
      · rw [if_neg c2]
        exact ⟨by rw [List.length_append]; dsimp only; omega, a2, fun w => by cases w⟩
    · rw [if_neg c]
      exact ⟨h2, h1, fun _ => ⟨h3, h4⟩⟩
theorem gBin_B {one : Bool} {ops : List Int32} {sub : Nat → PR} (ho : opsOK ops) (h : GB to sub) : GB to (gBin tx to one ops sub) := by
  intro b hb
  unfold gBin
  obtain ⟨a1, a2, a3⟩ := h b hb
  by_cases c : (sub b).1 = true
  · rw [if_pos c]
    exact gLoop_B ho h _ _ _ b a2 a1 (a3 c).1 (a3 c).2
  · rw [if_neg c]
    exact ⟨a1, a2, fun w => absurd w c⟩
theorem ops3 : opsOK [43, 45] := by
  intro v hv
  have : v = 43 ∨ v = 45 := by simpa using hv
  rcases this with rfl | rfl
  · exact ⟨by unfold isMk; simp, by decide, by decide⟩
  · exact ⟨by unfold isMk; simp, by decide, by decide⟩
theorem ops2 : opsOK [60, 62, 61] := by
  intro v hv
  have : v = 60 ∨ v = 62 ∨ v = 61 := by simpa using hv
  rcases this with rfl | rfl | rfl
  · exact ⟨by unfold isMk; simp, by decide, by decide⟩
  · exact ⟨by unfold isMk; simp, by decide, by decide⟩
  · exact ⟨by unfold isMk; simp, by decide, by decide⟩
theorem ops1 : opsOK [38] := by
  intro v hv
  have : v = 38 := by simpa using hv
  subst this
  exact ⟨by unfold isMk; simp, by decide, by decide⟩
theorem ops0 : opsOK [124] := by
  intro v hv
  have : v = 124 := by simpa using hv
  subst this
  exact ⟨by unfold isMk; simp, by decide, by decide⟩
theorem gSum_B {T : Nat → PR} (h : GB to T) : GB to (gSum tx to T) := gBin_B ops3 (gDen_B h)
theorem gCmp_B {T : Nat → PR} (h : GB to T) : GB to (gCmp tx to T) := gBin_B ops2 (gSum_B h)
theorem gAll_B {T : Nat → PR} (h : GB to T) : GB to (gAll tx to T) := gBin_B ops1 (gCmp_B h)
theorem gAny_B {T : Nat → PR} (h : GB to T) : GB to (gAny tx to T) := gBin_B ops0 (gAll_B h)
theorem gRc_B : ∀ r, GB to (gRc tx to r)
  | 0 => gAny_B (gThing_B (Or.inr rfl))
  | r + 1 => gAny_B (gThing_B (Or.inl (gRc_B r)))
end
end Z90
