-- THE STATE, plainly; what both sides hold of it
section Z29
/-- what is kept: open where, opened, read, sits, hours, log -/
abbrev ZS : Type := (Nat → Nat) × (Nat → Int32) × (Nat → Nat) × (Nat → Nat) × Int32 × List Int32
/-- books: how many, conditions (first, second, wanted), limits, rooms -/
abbrev ZB : Type := Nat × (Nat → List Int32) × (Nat → List Int32) × (Nat → Nat) × (Nat → Int32) × (Nat → Nat)
/-- readers: how many, where first, lists -/
abbrev ZRd : Type := Nat × (Nat → Nat) × (Nat → Nat)
/-- texts: the text, the rule, the row -/
abbrev ZT3 : Type := List Int32 × List Int32 × List Int32
abbrev ZA : Type := ZT3 × ZB × ZRd × ZS × (Nat → Option (ZS × Nat))
def dD (B : ZB) (R : ZRd) (S : ZS) : ZD := (B.2.1, B.2.2.1, B.2.2.2.1, fun b => cntr S.2.2.1 b R.1)
/-- a list in the cells of o from place i on -/
def lst (s : ZSt) (o i : Nat) (l : List Int32) : Prop := ∀ k, k < l.length → gi s o (i + k) = lF l k
def okSt (nb nr : Nat) (S : ZS) : Prop := okF nb S.1 ∧ (∀ b, nb ≤ b → S.2.1 b = 0) ∧ (∀ r, r < nr → S.2.2.1 r < 2 ^ nb ∧ S.2.2.2.1 r < 3) ∧ S.2.2.2.2.2.length ≤ 60
/-- what holds of the state itself -/
def okA (a : ZA) : Prop :=
  a.1.1.length ≤ 80 ∧ wfL a.1.2.1 ∧ a.1.2.2.length ≤ 12 ∧ a.2.1.1 ≤ 12 ∧ (∀ t, t < 3 → 1 ≤ a.2.1.2.2.2.2.2 t ∧ a.2.1.2.2.2.2.2 t ≤ 6) ∧
  a.2.2.1.1 ≤ 6 ∧ (∀ r, r < a.2.2.1.1 → a.2.2.1.2.1 r < 3 ∧ a.2.2.1.2.2 r < 2 ^ a.2.1.1) ∧ okSt a.2.1.1 a.2.2.1.1 a.2.2.2.1 ∧
  (∀ i S m, i < 3 → a.2.2.2.2 i = some (S, m) → okSt a.2.1.1 m S ∧ m ≤ a.2.2.1.1)
-- the reference
def MKp (s : ZSt) (i : Nat) (q : Option (ZS × Nat)) : Prop := match q with
  | none => gi s 151 i = 0
  | some (S, m) => gi s 151 i = 1 ∧ (∀ t, t < 3 → gi s 152 (91 * i + t) = nI (S.1 t)) ∧ (∀ b, b < 12 → gi s 152 (91 * i + 3 + b) = S.2.1 b) ∧
    (∀ r, r < 6 → gi s 152 (91 * i + 15 + r) = (if r < m then nI (S.2.2.1 r) else 0) ∧ gi s 152 (91 * i + 21 + r) = (if r < m then nI (S.2.2.2.1 r) else -1)) ∧
    gi s 152 (91 * i + 27) = S.2.2.2.2.1 ∧ gi s 152 (91 * i + 28) = nI S.2.2.2.2.2.length ∧ lst s 152 (91 * i + 29) S.2.2.2.2.2
abbrev MTx (s : ZSt) (tx : List Int32) : Prop := gi s 0 18 = nI tx.length ∧ lst s 117 0 tx
abbrev MRw (s : ZSt) (rw : List Int32) : Prop := gi s 0 1 = nI rw.length ∧ lst s 102 0 rw
abbrev MRs (s : ZSt) (R : ZRd) (si : Nat → Nat) : Prop := ∀ r, r < R.1 → gi s 110 r = nI (si r) ∧ gi s 111 r = nI (R.2.1 r) ∧ gi s 112 r = nI (R.2.2 r)
abbrev MLo (s : ZSt) (hr : Int32) (lg : List Int32) : Prop := gi s 0 29 = hr ∧ gi s 0 27 = nI lg.length ∧ lst s 128 0 lg
def MO (s : ZSt) (a : ZA) : Prop :=
  MTx s a.1.1 ∧ codeM s 24 a.1.2.1 ∧ MRw s a.1.2.2 ∧ MRs s a.2.2.1 a.2.2.2.1.2.2.2.1 ∧ MLo s a.2.2.2.1.2.2.2.2.1 a.2.2.2.1.2.2.2.2.2 ∧ (∀ i, i < 3 → MKp s i (a.2.2.2.2 i))
def MC (s : ZSt) (a : ZA) : Prop := MK s a.2.1.1 a.2.2.1.1 a.2.2.2.1.2.2.1 (dD a.2.1 a.2.2.1 a.2.2.2.1) a.2.1.2.2.2.2.1 a.2.2.2.1.2.1 a.2.1.2.2.2.2.2 a.2.2.2.1.1
def MA (s : ZSt) (a : ZA) : Prop := okA a ∧ MC s a ∧ MO s a
-- the class
def XLg (s : ZSt) (o : Nat) (tot : Nat) (l : List Int32) : Prop := l.length = min tot 60 ∧ ∀ k, k < l.length → gi s o ((tot - l.length + k) % 60) = lF l k
def XKp (s : ZSt) (i T : Nat) (q : Option (ZS × Nat)) : Prop := match q with
  | none => gi s (510 + i) 0 = 0
  | some (S, m) => gi s (510 + i) 0 = 1 ∧ gl s (510 + i) 1 = lN (en S.1) ∧ gi s (510 + i) 2 = S.2.2.2.2.1 ∧ (∃ tot, tot ≤ T ∧ gi s (510 + i) 3 = nI tot ∧ XLg s (520 + i) tot S.2.2.2.2.2) ∧ gi s (510 + i) 4 = nI m ∧
    (∀ b, b < 12 → gi s (525 + i) b = S.2.1 b) ∧ (∀ r, r < m → gi s (530 + i) r = nI (S.2.2.2.1 r) ∧ gi s (535 + i) r = nI (S.2.2.1 r))
abbrev XTx (s : ZSt) (tx : List Int32) : Prop := gi s 200 3 = nI tx.length ∧ lst s 224 0 tx
abbrev XRw (s : ZSt) (rw : List Int32) : Prop := gi s 1 13 = nI rw.length ∧ lst s 212 0 rw
abbrev XLi (s : ZSt) (nb : Nat) : Prop := ∀ b, nb ≤ b → b < 12 → gi s (300 + b) 3 = 99 ∧ gi s (300 + b) 5 = 0
abbrev XRs (s : ZSt) (R : ZRd) (si dn : Nat → Nat) : Prop := gi s 1 7 = nI R.1 ∧ (∀ r, r < R.1 → gi s (500 + r) 0 = nI (R.2.1 r) ∧ gi s (500 + r) 1 = nI (si r) ∧ gi s (500 + r) 2 = nI (R.2.2 r) ∧ gi s (500 + r) 3 = nI (dn r)) ∧ (∀ r, R.1 ≤ r → r < 6 → gi s (500 + r) 3 = 0)
abbrev XLo (s : ZSt) (T : Nat) (hr : Int32) (lg : List Int32) : Prop := gi s 1 9 = hr ∧ ∃ tot, tot ≤ T ∧ gi s 1 11 = nI tot ∧ XLg s 210 tot lg
def XO (s : ZSt) (T : Nat) (a : ZA) : Prop :=
  XTx s a.1.1 ∧ codeX s 352 a.1.2.1 ∧ XRw s a.1.2.2 ∧ XLi s a.2.1.1 ∧ XRs s a.2.2.1 a.2.2.2.1.2.2.2.1 a.2.2.2.1.2.2.1 ∧ XLo s T a.2.2.2.1.2.2.2.2.1 a.2.2.2.1.2.2.2.2.2 ∧
  (∀ i, i < 3 → XKp s i T (a.2.2.2.2 i))
def XB (s : ZSt) (st : Nat) (a : ZA) : Prop := XA s a.2.1.1 (dD a.2.1 a.2.2.1 a.2.2.2.1) a.2.1.2.2.2.2.1 a.2.2.2.1.2.1 a.2.1.2.2.2.2.2 a.2.2.2.1.1 st
/-- at most T hours' turns and changes so far -/
def XX (s : ZSt) (T : Nat) (a : ZA) : Prop := okA a ∧ (∃ st, st ≤ T + 1 ∧ XB s st a) ∧ XO s T a
-- frames
def qM (o j : Nat) : Bool := (o == 0 && (j == 1 || j == 3 || j == 9 || j == 18 || j == 27 || j == 29)) || o == 102 || (decide (104 ≤ o) && decide (o ≤ 108)) || (decide (110 ≤ o) && decide (o ≤ 113)) || (o == 114 && decide (j < 1600)) || (o == 115 && decide (j < 25)) || o == 117 || o == 128 || o == 151 || o == 152
theorem codeM.onQ {s t : ZSt} {p : Nat} {l : List Int32} (h : codeM s p l) (hw : wfL l) (hp : p < 25) (hq : ∀ o j, qM o j = true → gi t o j = gi s o j) : codeM t p l := by
  have h60 := hw.1
  refine ⟨by rw [hq 115 p (by simp [qM]; omega)]; exact h.1, fun k hk => ?_⟩
  rw [hq 114 _ (by simp [qM]; omega)]
  exact h.2 k hk
theorem lst.on {s t : ZSt} {o i : Nat} {l : List Int32} (h : lst s o i l) (hq : ∀ j, gi t o j = gi s o j) : lst t o i l := fun k hk => by rw [hq]; exact h k hk
theorem MKp.on {s t : ZSt} {i : Nat} {q : Option (ZS × Nat)} (h : MKp s i q) (h1 : ∀ j, gi t 151 j = gi s 151 j) (h2 : ∀ j, gi t 152 j = gi s 152 j) : MKp t i q := by
  cases q with
  | none => exact (h1 i).trans h
  | some w =>
    obtain ⟨S, m⟩ := w
    obtain ⟨a, b, c, d, e, f, g⟩ := h
    exact ⟨(h1 i).trans a, fun k hk => (h2 _).trans (b k hk), fun k hk => (h2 _).trans (c k hk), fun k hk => ⟨(h2 _).trans (d k hk).1, (h2 _).trans (d k hk).2⟩, (h2 _).trans e, (h2 _).trans f, g.on h2⟩
theorem MO.on {s t : ZSt} {a : ZA} (hA : okA a) (h : MO s a) (hq : ∀ o j, qM o j = true → gi t o j = gi s o j) : MO t a := by
  obtain ⟨⟨h1, h2⟩, h3, ⟨h4, h5⟩, h6, ⟨h7, h8, h9⟩, h10⟩ := h
  refine ⟨⟨(hq 0 18 rfl).trans h1, h2.on (fun j => hq 117 j rfl)⟩, h3.onQ hA.2.1 (by decide) hq, ⟨(hq 0 1 rfl).trans h4, h5.on (fun j => hq 102 j rfl)⟩, fun r hr => ?_, ⟨(hq 0 29 rfl).trans h7, (hq 0 27 rfl).trans h8, h9.on (fun j => hq 128 j rfl)⟩, fun i hi => (h10 i hi).on (fun j => hq 151 j rfl) (fun j => hq 152 j rfl)⟩
  obtain ⟨q1, q2, q3⟩ := h6 r hr
  exact ⟨(hq 110 r rfl).trans q1, (hq 111 r rfl).trans q2, (hq 112 r rfl).trans q3⟩
theorem RMc.onQ {s t : ZSt} {nb nr : Nat} {dn : Nat → Nat} {D : ZD} (h : RMc s nb nr dn D) (hq : ∀ o j, qM o j = true → gi t o j = gi s o j) : RMc t nb nr dn D := by
  obtain ⟨a, b, c, d, e, f⟩ := h
  refine ⟨(hq 0 3 rfl).trans a, b, (hq 0 9 rfl).trans c, d, fun r hr => ⟨(hq 113 r rfl).trans (e r hr).1, (e r hr).2⟩, fun b hb => ?_⟩
  obtain ⟨f1, f2, f3, f4, f5, f6, f7⟩ := f b hb
  exact ⟨f1.onQ f3 (by omega) hq, f2.onQ f4 (by omega) hq, f3, f4, (hq 106 b rfl).trans f5, f6, f7⟩
theorem MC.on {s t : ZSt} {a : ZA} (h : MC s a) (hq : ∀ o j, qM o j = true → gi t o j = gi s o j) : MC t a := by
  obtain ⟨q1, q2, q3, q4, q5, q6⟩ := h
  exact ⟨q1.onQ hq, fun b hb => (hq 104 b rfl).trans (q2 b hb), fun b hb => (hq 105 b rfl).trans (q3 b hb), fun t ht => ⟨(hq 107 t rfl).trans (q4 t ht).1, (q4 t ht).2⟩, fun t ht => (hq 108 t rfl).trans (q5 t ht), q6⟩
theorem MA.on {s t : ZSt} {a : ZA} (h : MA s a) (hq : ∀ o j, qM o j = true → gi t o j = gi s o j) : MA t a := ⟨h.1, h.2.1.on hq, h.2.2.on h.1 hq⟩
theorem MA.fr {p : Nat → Nat → Bool} {s t : ZSt} {a : ZA} (h : MA s a) (hE : zE p s t) (hp : ∀ o j, qM o j = true → p o j = false) : MA t a := h.on (fun o j e => hE.i (hp o j e))
def qX (o j : Nat) : Bool := (o == 1 && (j == 7 || j == 8 || j == 9 || j == 11 || j == 13)) || (o == 200 && j == 3) || o == 224 || o == 210 || o == 212 || (decide (300 ≤ o) && decide (o < 312) && (j == 2 || j == 3 || j == 4 || j == 5)) || (decide (320 ≤ o) && decide (o < 353) && j == 2) || (decide (400 ≤ o) && decide (o < 433)) || (decide (500 ≤ o) && decide (o < 550)) || (o == 201 && (j == 2 || j == 5)) || o == 241
theorem XLg.on {s t : ZSt} {o tot : Nat} {l : List Int32} (h : XLg s o tot l) (hq : ∀ j, gi t o j = gi s o j) : XLg t o tot l := ⟨h.1, fun k hk => (hq _).trans (h.2 k hk)⟩
theorem XKp.on {s t : ZSt} {i T : Nat} {q : Option (ZS × Nat)} (hi : i < 3) (h : XKp s i T q) (hq : ∀ o j, qX o j = true → gi t o j = gi s o j ∧ gl t o j = gl s o j) : XKp t i T q := by
  have h5 : ∀ o j, 500 ≤ o → o < 550 → gi t o j = gi s o j := fun o j a b => (hq o j (by simp [qX]; omega)).1
  cases q with
  | none => exact (h5 _ _ (by omega) (by omega)).trans h
  | some w =>
    obtain ⟨S, m⟩ := w
    obtain ⟨a, b, c, ⟨tot, d1, d2, d3⟩, e, f, g⟩ := h
    refine ⟨(h5 _ _ (by omega) (by omega)).trans a, ((hq _ _ (by simp [qX]; omega)).2).trans b, (h5 _ _ (by omega) (by omega)).trans c, ⟨tot, d1, (h5 _ _ (by omega) (by omega)).trans d2, d3.on (fun j => h5 _ _ (by omega) (by omega))⟩, (h5 _ _ (by omega) (by omega)).trans e, fun k hk => (h5 _ _ (by omega) (by omega)).trans (f k hk), fun k hk => ⟨(h5 _ _ (by omega) (by omega)).trans (g k hk).1, (h5 _ _ (by omega) (by omega)).trans (g k hk).2⟩⟩
theorem XO.on {s t : ZSt} {T : Nat} {a : ZA} (hA : okA a) (h : XO s T a) (hq : ∀ o j, qX o j = true → gi t o j = gi s o j ∧ gl t o j = gl s o j) : XO t T a := by
  have h6 := hA.2.2.2.2.2.1
  have h60 := hA.2.1.1
  obtain ⟨⟨h1, h2⟩, h3, ⟨h4, h5⟩, hb, ⟨h7, h8, h9⟩, ⟨h10, tot, h11, h12, h13⟩, h14⟩ := h
  refine ⟨⟨(hq 200 3 rfl).1.trans h1, h2.on (fun j => (hq 224 j rfl).1)⟩, h3.on (hq 352 2 rfl).1 (fun k => (hq 432 k rfl).1), ⟨(hq 1 13 rfl).1.trans h4, h5.on (fun j => (hq 212 j rfl).1)⟩, fun b q1 q2 => ⟨(hq _ _ (by simp [qX]; omega)).1.trans (hb b q1 q2).1, (hq _ _ (by simp [qX]; omega)).1.trans (hb b q1 q2).2⟩, ⟨(hq 1 7 rfl).1.trans h7, fun r hr => ?_, fun r q1 q2 => (hq _ _ (by simp [qX]; omega)).1.trans (h9 r q1 q2)⟩, ⟨(hq 1 9 rfl).1.trans h10, tot, h11, (hq 1 11 rfl).1.trans h12, h13.on (fun j => (hq 210 j rfl).1)⟩, fun i hi => (h14 i hi).on hi hq⟩
  obtain ⟨q1, q2, q3, q4⟩ := h8 r hr
  have e : ∀ j, gi t (500 + r) j = gi s (500 + r) j := fun j => (hq _ _ (by simp [qX]; omega)).1
  exact ⟨(e _).trans q1, (e _).trans q2, (e _).trans q3, (e _).trans q4⟩
theorem XX.mono {s : ZSt} {T T' : Nat} {a : ZA} (h : XX s T a) (hT : T ≤ T') : XX s T' a := by
  obtain ⟨hA, ⟨st, h1, h2⟩, ⟨q1, q2, q3, q4, q5, ⟨q6, tot, q7, q8⟩, q9⟩⟩ := h
  refine ⟨hA, ⟨st, by omega, h2⟩, q1, q2, q3, q4, q5, ⟨q6, tot, by omega, q8⟩, fun i hi => ?_⟩
  have := q9 i hi
  revert this
  cases a.2.2.2.2 i with
  | none => exact id
  | some w =>
    obtain ⟨S, m⟩ := w
    rintro ⟨a, b, c, ⟨tot, d1, d2⟩, e⟩
    exact ⟨a, b, c, ⟨tot, by omega, d2⟩, e⟩
theorem XA.onQ {s t : ZSt} {nb st : Nat} {D : ZD} {lim opn : Nat → Int32} {rm f : Nat → Nat} (h : XA s nb D lim opn rm f st) (hq : ∀ o j, qX o j = true → gi t o j = gi s o j ∧ gl t o j = gl s o j) (hC : XC t nb D st) : XA t nb D lim opn rm f st := by
  obtain ⟨⟨⟨a, b, c⟩, d, e⟩, g, h, i, j⟩ := h
  refine ⟨⟨⟨(hq 201 2 rfl).1.trans a, b, fun k hk => ?_⟩, hC, fun k hk => ⟨(hq 241 k rfl).1.trans (e k hk).1, (e k hk).2⟩⟩, fun k hk => (hq _ _ (by simp [qX]; omega)).1.trans (g k hk), fun k hk => (hq _ _ (by simp [qX]; omega)).1.trans (h k hk), (hq 1 8 rfl).2.trans i, j⟩
  obtain ⟨c1, c2, c3, c4, c5, c6, c7, c8⟩ := c k hk
  refine ⟨c1.on (hq _ _ (by simp [qX]; omega)).1 (fun j => (hq _ _ (by simp [qX]; omega)).1), c2.on (hq _ _ (by simp [qX]; omega)).1 (fun j => (hq _ _ (by simp [qX]; omega)).1), c3, c4, (hq _ _ (by simp [qX]; omega)).1.trans c5, c6, (hq _ _ (by simp [qX]; omega)).1.trans c7, c8⟩
/-- what only works on the class's scratch keeps all -/
theorem XX.fr {p : Nat → Nat → Bool} {s t : ZSt} {T : Nat} {a : ZA} (h : XX s T a) (hE : zE p s t) (hp : ∀ o j, (qX o j || o == 243 || o == 244) = true → p o j = false) : XX t T a := by
  obtain ⟨hA, ⟨st, h1, h2⟩, h3⟩ := h
  have hq : ∀ o j, qX o j = true → gi t o j = gi s o j ∧ gl t o j = gl s o j := fun o j e => hE o j (hp o j (by rw [e]; rfl))
  refine ⟨hA, ⟨st, h1, h2.onQ hq (h2.1.2.1.on (hE.i (hp 201 5 rfl)) (fun i => hE.i (hp 244 i (by simp))) (fun i => hE.i (hp 243 i (by simp))))⟩, h3.on hA hq⟩
/-- .. and what asks what may be -/
theorem XX.mb {p : Nat → Nat → Bool} {s t : ZSt} {T st : Nat} {a : ZA} (hA : okA a) (h1 : st ≤ T + 1) (h2 : XB s st a) (h3 : XO s T a) (hE : zE p s t) (hp : ∀ o j, qX o j = true → p o j = false) (hC : XC t a.2.1.1 (dD a.2.1 a.2.2.1 a.2.2.2.1) st) : XX t T a := by
  have hq : ∀ o j, qX o j = true → gi t o j = gi s o j ∧ gl t o j = gl s o j := fun o j e => hE o j (hp o j e)
  exact ⟨hA, ⟨st, h1, h2.onQ hq hC⟩, h3.on hA hq⟩
-- piece by piece
section
variable {p : Nat → Nat → Bool} {s t : ZSt} (hE : zE p s t)
theorem lst.fr {o i : Nat} {l : List Int32} (h : lst s o i l) (hE : zE p s t) (hp : ∀ j, p o j = false) : lst t o i l := h.on (fun j => hE.i (hp j))
theorem MTx.fr {tx : List Int32} (h : MTx s tx) (hE : zE p s t) (hp : p 0 18 = false ∧ ∀ j, p 117 j = false) : MTx t tx := ⟨(hE.i hp.1).trans h.1, h.2.fr hE hp.2⟩
theorem MRl.fr {l : List Int32} (h : codeM s 24 l) (hw : wfL l) (hE : zE p s t) (hp : p 115 24 = false ∧ ∀ j, j < 1600 → p 114 j = false) : codeM t 24 l := by
  have h60 := hw.1
  exact ⟨(hE.i hp.1).trans h.1, fun k hk => (hE.i (hp.2 _ (by omega))).trans (h.2 k hk)⟩
theorem MRw.fr {l : List Int32} (h : MRw s l) (hE : zE p s t) (hp : p 0 1 = false ∧ ∀ j, p 102 j = false) : MRw t l := ⟨(hE.i hp.1).trans h.1, h.2.fr hE hp.2⟩
theorem MRs.fr {R : ZRd} {si : Nat → Nat} (h : MRs s R si) (hE : zE p s t) (hp : ∀ j, p 110 j = false ∧ p 111 j = false ∧ p 112 j = false) : MRs t R si := fun r hr => ⟨(hE.i (hp r).1).trans (h r hr).1, (hE.i (hp r).2.1).trans (h r hr).2.1, (hE.i (hp r).2.2).trans (h r hr).2.2⟩
theorem MLo.fr {hr : Int32} {lg : List Int32} (h : MLo s hr lg) (hE : zE p s t) (hp : p 0 29 = false ∧ p 0 27 = false ∧ ∀ j, p 128 j = false) : MLo t hr lg := ⟨(hE.i hp.1).trans h.1, (hE.i hp.2.1).trans h.2.1, h.2.2.fr hE hp.2.2⟩
theorem MKs.fr {K : Nat → Option (ZS × Nat)} (h : ∀ i, i < 3 → MKp s i (K i)) (hE : zE p s t) (hp : ∀ j, p 151 j = false ∧ p 152 j = false) : ∀ i, i < 3 → MKp t i (K i) := fun i hi => (h i hi).on (fun j => hE.i (hp j).1) (fun j => hE.i (hp j).2)
theorem XTx.fr {tx : List Int32} (h : XTx s tx) (hE : zE p s t) (hp : p 200 3 = false ∧ ∀ j, p 224 j = false) : XTx t tx := ⟨(hE.i hp.1).trans h.1, h.2.fr hE hp.2⟩
theorem codeX.fr {o : Nat} {l : List Int32} (h : codeX s o l) (hE : zE p s t) (hp : p o 2 = false ∧ ∀ j, p (o + 80) j = false) : codeX t o l := h.on (hE.i hp.1) (fun j => hE.i (hp.2 j))
theorem XRw.fr {l : List Int32} (h : XRw s l) (hE : zE p s t) (hp : p 1 13 = false ∧ ∀ j, p 212 j = false) : XRw t l := ⟨(hE.i hp.1).trans h.1, h.2.fr hE hp.2⟩
theorem XLi.fr {nb : Nat} (h : XLi s nb) (hE : zE p s t) (hp : ∀ b, b < 12 → p (300 + b) 3 = false ∧ p (300 + b) 5 = false) : XLi t nb := fun b h1 h2 => ⟨(hE.i (hp b h2).1).trans (h b h1 h2).1, (hE.i (hp b h2).2).trans (h b h1 h2).2⟩
theorem XRs.fr {R : ZRd} {si dn : Nat → Nat} (h : XRs s R si dn) (hR : R.1 ≤ 6) (hE : zE p s t) (hp : p 1 7 = false ∧ ∀ r j, r < 6 → p (500 + r) j = false) : XRs t R si dn :=
  ⟨(hE.i hp.1).trans h.1, fun r hr => ⟨(hE.i (hp.2 r _ (by omega))).trans (h.2.1 r hr).1, (hE.i (hp.2 r _ (by omega))).trans (h.2.1 r hr).2.1, (hE.i (hp.2 r _ (by omega))).trans (h.2.1 r hr).2.2.1, (hE.i (hp.2 r _ (by omega))).trans (h.2.1 r hr).2.2.2⟩, fun r h1 h2 => (hE.i (hp.2 r _ h2)).trans (h.2.2 r h1 h2)⟩
theorem XLo.fr {T : Nat} {hr : Int32} {lg : List Int32} (h : XLo s T hr lg) (hE : zE p s t) (hp : p 1 9 = false ∧ p 1 11 = false ∧ ∀ j, p 210 j = false) : XLo t T hr lg := by
  obtain ⟨a, tot, b, c, d⟩ := h
  exact ⟨(hE.i hp.1).trans a, tot, b, (hE.i hp.2.1).trans c, d.on (fun j => hE.i (hp.2.2 j))⟩
theorem XKs.fr {T : Nat} {K : Nat → Option (ZS × Nat)} (h : ∀ i, i < 3 → XKp s i T (K i)) (hE : zE p s t) (hp : ∀ o j, 510 ≤ o → o < 550 → p o j = false) : ∀ i, i < 3 → XKp t i T (K i) := by
  intro i hi
  have h := h i hi
  have h5 : ∀ o j, 510 ≤ o → o < 550 → gi t o j = gi s o j := fun o j a b => hE.i (hp o j a b)
  revert h
  cases K i with
  | none => exact fun h => (h5 _ _ (by omega) (by omega)).trans h
  | some w =>
    obtain ⟨S, m⟩ := w
    rintro ⟨a, b, c, ⟨tot, d1, d2, d3⟩, e, f, g⟩
    exact ⟨(h5 _ _ (by omega) (by omega)).trans a, (hE.l (hp _ _ (by omega) (by omega))).trans b, (h5 _ _ (by omega) (by omega)).trans c, ⟨tot, d1, (h5 _ _ (by omega) (by omega)).trans d2, d3.on (fun j => h5 _ _ (by omega) (by omega))⟩, (h5 _ _ (by omega) (by omega)).trans e, fun k hk => (h5 _ _ (by omega) (by omega)).trans (f k hk), fun k hk => ⟨(h5 _ _ (by omega) (by omega)).trans (g k hk).1, (h5 _ _ (by omega) (by omega)).trans (g k hk).2⟩⟩
end
/-- an act's part of the class: what touches it not, leaves it -/
theorem XA.fr2 {p : Nat → Nat → Bool} {s t : ZSt} {nb st : Nat} {D : ZD} {lim opn : Nat → Int32} {rm f : Nat → Nat} (h : XA s nb D lim opn rm f st) (hE : zE p s t) (hp : noX p ∧ p 1 8 = false ∧ (∀ b, b < 12 → p (300 + b) 3 = false ∧ p (300 + b) 4 = false) ∧ p 201 5 = false ∧ (∀ j, p 243 j = false ∧ p 244 j = false)) : XA t nb D lim opn rm f st := by
  obtain ⟨⟨a, b, c⟩, d, e, g, k⟩ := h
  obtain ⟨p1, p2, p3, p4, p5⟩ := hp
  have hnb := a.2.1
  exact ⟨⟨a.fr hE p1, b.on (hE.i p4) (fun i => hE.i (p5 i).2) (fun i => hE.i (p5 i).1), fun u hu => ⟨(hE.i (p1.2.2 u)).trans (c u hu).1, (c u hu).2⟩⟩, fun u hu => (hE.i (p3 u (by omega)).1).trans (d u hu), fun u hu => (hE.i (p3 u hu).2).trans (e u hu), (hE.l p2).trans g, k⟩
end Z29
