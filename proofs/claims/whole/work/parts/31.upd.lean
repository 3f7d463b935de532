-- what changes, what stays
section Z31
def qC (o j : Nat) : Bool := (o == 0 && (j == 3 || j == 9)) || (decide (104 ≤ o) && decide (o ≤ 108)) || o == 113 || (o == 114 && decide (j < 1600)) || (o == 115 && decide (j < 25))
theorem codeM.onC {s t : ZSt} {p : Nat} {l : List Int32} (h : codeM s p l) (hw : wfL l) (hp : p < 25) (hq : ∀ o j, qC o j = true → gi t o j = gi s o j) : codeM t p l := by
  have h60 := hw.1
  refine ⟨by rw [hq 115 p (by simp [qC]; omega)]; exact h.1, fun k hk => ?_⟩
  rw [hq 114 _ (by simp [qC]; omega)]
  exact h.2 k hk
theorem RMc.onC {s t : ZSt} {nb nr : Nat} {dn : Nat → Nat} {D : ZD} (h : RMc s nb nr dn D) (hq : ∀ o j, qC o j = true → gi t o j = gi s o j) : RMc t nb nr dn D := by
  obtain ⟨a, b, c, d, e, f⟩ := h
  refine ⟨(hq 0 3 rfl).trans a, b, (hq 0 9 rfl).trans c, d, fun r hr => ⟨(hq 113 r rfl).trans (e r hr).1, (e r hr).2⟩, fun b hb => ?_⟩
  obtain ⟨f1, f2, f3, f4, f5, f6, f7⟩ := f b hb
  exact ⟨f1.onC f3 (by omega) hq, f2.onC f4 (by omega) hq, f3, f4, (hq 106 b rfl).trans f5, f6, f7⟩
theorem MC.onC {s t : ZSt} {a : ZA} (h : MC s a) (hq : ∀ o j, qC o j = true → gi t o j = gi s o j) : MC t a := by
  obtain ⟨q1, q2, q3, q4, q5, q6⟩ := h
  exact ⟨q1.onC hq, fun b hb => (hq 104 b rfl).trans (q2 b hb), fun b hb => (hq 105 b rfl).trans (q3 b hb), fun t ht => ⟨(hq 107 t rfl).trans (q4 t ht).1, (q4 t ht).2⟩, fun t ht => (hq 108 t rfl).trans (q5 t ht), q6⟩
theorem okA_rw {a : ZA} (h : okA a) {rw : List Int32} (hl : rw.length ≤ 12) : okA ((a.1.1, a.1.2.1, rw), a.2) := ⟨h.1, h.2.1, hl, h.2.2.2⟩
/-- the row -/
theorem MA.rw {p : Nat → Nat → Bool} {s t : ZSt} {a : ZA} (h : MA s a) (hE : zE p s t) (hp : ∀ o j, qM o j = true → (o == 102 || (o == 0 && j == 1)) = false → p o j = false) {rw : List Int32} (hl : rw.length ≤ 12) (h1 : MRw t rw) : MA t ((a.1.1, a.1.2.1, rw), a.2) := by
  obtain ⟨hA, hC, h2, h3, h4, h5, h6, h7⟩ := h
  refine ⟨okA_rw hA hl, hC.onC (fun o j e => hE.i (hp o j ?_ ?_)), h2.fr hE ⟨hp _ _ rfl rfl, fun _ => hp _ _ rfl rfl⟩, MRl.fr h3 hA.2.1 hE ⟨hp _ _ rfl rfl, fun _ _ => hp _ _ (by simp [qM]; omega) rfl⟩, h1, h5.fr hE (fun _ => ⟨hp _ _ rfl rfl, hp _ _ rfl rfl, hp _ _ rfl rfl⟩), h6.fr hE ⟨hp _ _ rfl rfl, hp _ _ rfl rfl, fun _ => hp _ _ rfl rfl⟩, MKs.fr h7 hE (fun _ => ⟨hp _ _ rfl rfl, hp _ _ rfl rfl⟩)⟩ <;> (simp [qC, qM] at *; omega)
theorem XX.rw {p : Nat → Nat → Bool} {s t : ZSt} {T st : Nat} {a : ZA} (hA : okA a) (h1 : st ≤ T + 1) (h2 : XB s st a) (h3 : XO s T a) (hE : zE p s t) (hp : ∀ o j, qX o j = true → (o == 212 || (o == 1 && j == 13)) = false → p o j = false) (hC : XC t a.2.1.1 (dD a.2.1 a.2.2.1 a.2.2.2.1) st) {rw : List Int32} (hl : rw.length ≤ 12) (hr : XRw t rw) : XX t T ((a.1.1, a.1.2.1, rw), a.2) := by
  obtain ⟨k1, k2, k3, k4, k5, k6, k7⟩ := h3
  have h6 := hA.2.2.2.2.2.1
  have hq : ∀ o j, qX o j = true → (o == 212 || (o == 1 && j == 13)) = false → gi t o j = gi s o j ∧ gl t o j = gl s o j := fun o j e1 e2 => hE o j (hp o j e1 e2)
  have hB : XB t st a := by
    obtain ⟨⟨⟨a1, b, c⟩, d, e⟩, g, h, i, j⟩ := h2
    refine ⟨⟨⟨(hq 201 2 rfl rfl).1.trans a1, b, fun k hk => ?_⟩, hC, fun k hk => ⟨(hq 241 k rfl rfl).1.trans (e k hk).1, (e k hk).2⟩⟩, fun k hk => (hq _ _ (by simp [qX]; omega) (by simp; omega)).1.trans (g k hk), fun k hk => (hq _ _ (by simp [qX]; omega) (by simp; omega)).1.trans (h k hk), (hq 1 8 rfl rfl).2.trans i, j⟩
    obtain ⟨c1, c2, c3, c4, c5, c6, c7, c8⟩ := c k hk
    refine ⟨c1.on (hq _ _ (by simp [qX]; omega) (by simp; omega)).1 (fun j => (hq _ _ (by simp [qX]; omega) (by simp; omega)).1), c2.on (hq _ _ (by simp [qX]; omega) (by simp; omega)).1 (fun j => (hq _ _ (by simp [qX]; omega) (by simp; omega)).1), c3, c4, (hq _ _ (by simp [qX]; omega) (by simp; omega)).1.trans c5, c6, (hq _ _ (by simp [qX]; omega) (by simp; omega)).1.trans c7, c8⟩
  refine ⟨okA_rw hA hl, ⟨st, h1, hB⟩, k1.fr hE ⟨hp _ _ rfl rfl, fun _ => hp _ _ rfl rfl⟩, k2.fr hE ⟨hp _ _ rfl rfl, fun _ => hp _ _ rfl rfl⟩, hr, k4.fr hE (fun b hb => ⟨hp _ _ ?_ ?_, hp _ _ ?_ ?_⟩), k5.fr h6 hE ⟨hp _ _ rfl rfl, fun r j hr => hp _ _ ?_ ?_⟩, k6.fr hE ⟨hp _ _ rfl rfl, hp _ _ rfl rfl, fun _ => hp _ _ rfl rfl⟩, XKs.fr k7 hE (fun o j h1 h2 => hp _ _ ?_ ?_)⟩ <;> (simp [qX]; omega)
theorem lF_app (l : List Int32) (v : Int32) : lF (l ++ [v]) l.length = v := by
  rw [lF_ge (Nat.le_refl _), Nat.sub_self]; rfl
theorem lst_app {s t : ZSt} {o : Nat} {l : List Int32} {v : Int32} (h : lst s o 0 l) (h1 : ∀ j, j ≠ l.length → gi t o j = gi s o j) (h2 : gi t o l.length = v) : lst t o 0 (l ++ [v]) := by
  intro k hk
  rw [List.length_append, List.length_singleton] at hk
  rw [Nat.zero_add]
  by_cases e : k = l.length
  · rw [e, h2, lF_app]
  · rw [h1 k e, lF_lt (by omega)]
    have := h k (by omega)
    rwa [Nat.zero_add] at this
def prm : Nat → Nat → Bool := fun o j => o == 102 || (o == 0 && j == 1)
def prx : Nat → Nat → Bool := fun o j => o == 212 || (o == 1 && j == 13)
theorem m_enters {s : ZSt} {rw : List Int32} (v : Int32) (h : MRw s rw) (hl : rw.length < 20) : zT (f_M_enters v s) (fun t => zE prm s t ∧ MRw t (rw ++ [v])) := by
  obtain ⟨h1, h2⟩ := h
  unfold f_M_enters
  rw [h1]
  refine zT.gu (inb_n hl (by decide)) ?_
  rw [sai_n _ _ _ (by omega)]
  refine zT.ltS ?_
  rw [gi_i, if_neg (by omega), h1, nI_1]
  refine zT.ltS (zT.ret ⟨((zE.refl _ _).wi rfl).wi rfl, ?_, ?_⟩)
  · rw [gi_i, if_pos ⟨rfl, rfl⟩, List.length_append]; rfl
  · refine lst_app h2 (fun j hj => ?_) ?_
    · rw [gi_i, if_neg (by omega), gi_i, if_neg (fun q => hj q.2)]
    · rw [gi_i, if_neg (by omega), gi_i, if_pos ⟨rfl, rfl⟩]
theorem x_tell {s : ZSt} {rw : List Int32} (v : Int32) (h : XRw s rw) (hl : rw.length < 12) : zT (f_X_tell v s) (fun t => zE prx s t ∧ XRw t (rw ++ [v])) := by
  obtain ⟨h1, h2⟩ := h
  unfold f_X_tell
  rw [h1]
  refine zT.ie (show ¬ (12 : Int32) ≤ nI rw.length from nI_ge hl (by decide)) ?_
  refine zT.gu (inb_n hl (by decide)) ?_
  rw [sai_n _ _ _ (by omega)]
  refine zT.ltS ?_
  rw [gi_i, if_neg (by omega), h1, nI_1]
  refine zT.ltS (zT.ret ⟨((zE.refl _ _).wi rfl).wi rfl, ?_, ?_⟩)
  · rw [gi_i, if_pos ⟨rfl, rfl⟩, List.length_append]; rfl
  · refine lst_app h2 (fun j hj => ?_) ?_
    · rw [gi_i, if_neg (by omega), gi_i, if_neg (fun q => hj q.2)]
    · rw [gi_i, if_neg (by omega), gi_i, if_pos ⟨rfl, rfl⟩]
theorem m_rw0 (s : ZSt) : MRw (si s 0 1 0) [] := ⟨by rw [gi_i, if_pos ⟨rfl, rfl⟩]; rfl, fun k hk => absurd hk (Nat.not_lt_zero _)⟩
theorem x_rw0 (s : ZSt) : XRw (si s 1 13 0) [] := ⟨by rw [gi_i, if_pos ⟨rfl, rfl⟩]; rfl, fun k hk => absurd hk (Nat.not_lt_zero _)⟩
theorem prm_mo {s t : ZSt} (h : zE prm s t) : zE pMo s t := h.mono (fun o j e => by simp [pMo, prm] at *; omega)
theorem prx_xo {s t : ZSt} (h : zE prx s t) : zE pXo s t := h.mono (fun o j e => by simp [pXo, prx] at *; omega)
theorem pmb_xo {s t : ZSt} (h : zE pmb s t) : zE pXo s t := h.mono (fun o j e => by simp [pXo, pmb] at *; omega)
theorem p116_mo {s t : ZSt} (h : zE p116 s t) : zE pMo s t := h.mono (fun o j e => by simp [pMo, p116] at *; omega)
theorem MA.s116 {s t : ZSt} {a : ZA} (h : MA s a) (hE : zE p116 s t) : MA t a := h.fr hE (fun o j e => by simp [qM, p116] at *; omega)
theorem XX.smb {s t : ZSt} {T st : Nat} {a : ZA} (hA : okA a) (h1 : st ≤ T + 1) (h2 : XB s st a) (h3 : XO s T a) (hE : zE pmb s t) (hK : XK t a.2.1.1 (dD a.2.1 a.2.2.1 a.2.2.2.1) a.2.1.2.2.2.2.2 st) : XX t T a :=
  XX.mb hA h1 h2 h3 hE (fun o j e => by simp [qX, pmb] at *; omega) hK.2.1
theorem XB.smb {s t : ZSt} {st : Nat} {a : ZA} (h2 : XB s st a) (hE : zE pmb s t) (hK : XK t a.2.1.1 (dD a.2.1 a.2.2.1 a.2.2.2.1) a.2.1.2.2.2.2.2 st) : XB t st a := h2.fr hE hK
theorem XO.smb {s t : ZSt} {T : Nat} {a : ZA} (hA : okA a) (h : XO s T a) (hE : zE pmb s t) : XO t T a := h.on hA (fun o j e => hE o j (by simp [qX, pmb] at *; omega))
-- what acts change: the books' limits, the rooms, what is open, what has been opened
def putB (a : ZA) (lim : Nat → Int32) (rm : Nat → Nat) (f : Nat → Nat) (opn : Nat → Int32) : ZA := (a.1, (a.2.1.1, a.2.1.2.1, a.2.1.2.2.1, a.2.1.2.2.2.1, lim, rm), a.2.2.1, (f, opn, a.2.2.2.1.2.2), a.2.2.2.2)
theorem okA_put {a : ZA} (h : okA a) {lim : Nat → Int32} {rm f : Nat → Nat} {opn : Nat → Int32} (hr : ∀ t, t < 3 → 1 ≤ rm t ∧ rm t ≤ 6) (hf : okF a.2.1.1 f) (ho : ∀ b, a.2.1.1 ≤ b → opn b = 0) : okA (putB a lim rm f opn) := by
  obtain ⟨h1, h2, h3, h4, h5, h6, h7, ⟨h8, h9, h10, h11⟩, h12⟩ := h
  exact ⟨h1, h2, h3, h4, hr, h6, h7, ⟨hf, ho, h10, h11⟩, h12⟩
theorem MA.put {p : Nat → Nat → Bool} {s t : ZSt} {a : ZA} (h : MA s a) (hE : zE p s t) (hp : ∀ o j, qM o j = true → (o == 104 || o == 105 || o == 107 || o == 108) = false → p o j = false) {lim : Nat → Int32} {rm f : Nat → Nat} {opn : Nat → Int32} (hA' : okA (putB a lim rm f opn)) (hC : MC t (putB a lim rm f opn)) : MA t (putB a lim rm f opn) := by
  obtain ⟨hA, _, h2, h3, h4, h5, h6, h7⟩ := h
  exact ⟨hA', hC, h2.fr hE ⟨hp _ _ rfl rfl, fun _ => hp _ _ rfl rfl⟩, MRl.fr h3 hA.2.1 hE ⟨hp _ _ rfl rfl, fun _ _ => hp _ _ (by simp [qM]; omega) rfl⟩, h4.fr hE ⟨hp _ _ rfl rfl, fun _ => hp _ _ rfl rfl⟩, h5.fr hE (fun _ => ⟨hp _ _ rfl rfl, hp _ _ rfl rfl, hp _ _ rfl rfl⟩), h6.fr hE ⟨hp _ _ rfl rfl, hp _ _ rfl rfl, fun _ => hp _ _ rfl rfl⟩, MKs.fr h7 hE (fun _ => ⟨hp _ _ rfl rfl, hp _ _ rfl rfl⟩)⟩
theorem XX.put {p : Nat → Nat → Bool} {s t : ZSt} {T st : Nat} {a : ZA} (hA : okA a) (h1 : st ≤ T + 1) (h3 : XO s T a) (hE : zE p s t) (hp : ∀ o j, qX o j = true → (o == 241 || (o == 1 && j == 8) || (decide (300 ≤ o) && decide (o < 300 + a.2.1.1) && j == 3) || (decide (300 ≤ o) && decide (o < 312) && j == 4)) = false → p o j = false) {lim : Nat → Int32} {rm f : Nat → Nat} {opn : Nat → Int32} (hA' : okA (putB a lim rm f opn)) (hB : XB t st (putB a lim rm f opn)) : XX t T (putB a lim rm f opn) := by
  obtain ⟨k1, k2, k3, k4, k5, k6, k7⟩ := h3
  have h6 := hA.2.2.2.2.2.1
  have hnb := hA.2.2.2.1
  have h4 : XLi t a.2.1.1 := fun b q1 q2 => ⟨(hE.i (hp _ _ (by simp [qX]; omega) (by simp <;> omega))).trans (k4 b q1 q2).1, (hE.i (hp _ _ (by simp [qX]; omega) (by simp <;> omega))).trans (k4 b q1 q2).2⟩
  refine ⟨hA', ⟨st, h1, hB⟩, k1.fr hE ⟨hp _ _ rfl (by simp), fun _ => hp _ _ rfl (by simp <;> omega)⟩, k2.fr hE ⟨hp _ _ rfl (by simp), fun _ => hp _ _ rfl (by simp <;> omega)⟩, k3.fr hE ⟨hp _ _ rfl (by simp), fun _ => hp _ _ rfl (by simp <;> omega)⟩, h4, k5.fr h6 hE ⟨hp _ _ rfl (by simp), fun r j hr => hp _ _ ?_ ?_⟩, k6.fr hE ⟨hp _ _ rfl (by simp), hp _ _ rfl (by simp), fun _ => hp _ _ rfl (by simp <;> omega)⟩, XKs.fr k7 hE (fun o j h1 h2 => hp _ _ ?_ ?_)⟩ <;> (simp [qX]; omega)
end Z31
