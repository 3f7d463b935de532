-- what can be from each state on: passes till nothing changes
section Z80
def gor (e : Nat → Nat) (v : Nat) (l : List Nat) : Nat → Nat
  | 0 => v
  | k + 1 => gor e v l k ||| e (l.getD k 0)
def grw (e : Nat → Nat) (i : Nat) (l : List Nat) : Nat := gor e (e i) l l.length
/-- one pass, from the last to the first -/
def gpd (ed : Nat → List Nat) : Nat → (Nat → Nat) → Nat → Nat
  | 0, e => e
  | k + 1, e => gpd ed k (ups e k (grw e k (ed k)))
def edOK (N : Nat) (ed : Nat → List Nat) : Prop := ∀ j, j < N → ∀ k, k < (ed j).length → (ed j).getD k 0 < N
theorem gpd_s (ed : Nat → List Nat) (k : Nat) (e : Nat → Nat) : gpd ed (k + 1) e = gpd ed k (ups e k (grw e k (ed k))) := rfl
theorem gor_s (e : Nat → Nat) (v : Nat) (l : List Nat) (k : Nat) : gor e v l (k + 1) = gor e v l k ||| e (l.getD k 0) := rfl
theorem gor_lt {e : Nat → Nat} {v : Nat} {l : List Nat} (hv : v < 4096) : ∀ k, (∀ j, j < k → e (l.getD j 0) < 4096) → gor e v l k < 4096 := by
  intro k
  induction k with
  | zero => intro _; exact hv
  | succ k ih => intro h; exact or_lt (nb := 12) (ih (fun j hj => h j (by omega))) (h k (by omega))
theorem gor_ge {e : Nat → Nat} {v : Nat} {l : List Nat} {i : Nat} (h : v.testBit i = true) : ∀ k, (gor e v l k).testBit i = true := by
  intro k
  induction k with
  | zero => exact h
  | succ k ih => rw [gor_s, Nat.testBit_or, ih]; rfl
theorem gor_t {e : Nat → Nat} {v : Nat} {l : List Nat} {i : Nat} : ∀ k, (gor e v l k).testBit i = true ↔ v.testBit i = true ∨ ∃ j, j < k ∧ (e (l.getD j 0)).testBit i = true := by
  intro k
  induction k with
  | zero => exact ⟨fun h => Or.inl h, fun h => h.elim id (fun ⟨j, hj, _⟩ => absurd hj (Nat.not_lt_zero _))⟩
  | succ k ih =>
    rw [gor_s, Nat.testBit_or, Bool.or_eq_true, ih]
    constructor
    · rintro ((h | ⟨j, h1, h2⟩) | h)
      · exact Or.inl h
      · exact Or.inr ⟨j, by omega, h2⟩
      · exact Or.inr ⟨k, by omega, h⟩
    · rintro (h | ⟨j, h1, h2⟩)
      · exact Or.inl (Or.inl h)
      · by_cases q : j = k
        · subst q; exact Or.inr h2
        · exact Or.inl (Or.inr ⟨j, by omega, h2⟩)
theorem gpd_lt {N : Nat} {ed : Nat → List Nat} (hd : edOK N ed) : ∀ k e, k ≤ N → (∀ i, i < N → e i < 4096) → ∀ i, i < N → gpd ed k e i < 4096 := by
  intro k
  induction k with
  | zero => intro e _ h; exact h
  | succ k ih =>
    intro e hk h i hi
    rw [gpd_s]
    refine ih _ (by omega) (fun j hj => ?_) i hi
    rw [ups_i]
    split
    · exact gor_lt (h k (by omega)) _ (fun m hm => h _ (hd k (by omega) m hm))
    · exact h j hj
theorem gpd_ge {ed : Nat → List Nat} {i b : Nat} : ∀ k e, (e i).testBit b = true → (gpd ed k e i).testBit b = true := by
  intro k
  induction k with
  | zero => intro e h; exact h
  | succ k ih =>
    intro e h
    rw [gpd_s]
    refine ih _ ?_
    rw [ups_i]
    split
    · rename_i q
      subst q
      exact gor_ge h _
    · exact h
theorem gpd_out {ed : Nat → List Nat} {i : Nat} : ∀ k e, k ≤ i → gpd ed k e i = e i := by
  intro k
  induction k with
  | zero => intro e _; rfl
  | succ k ih =>
    intro e h
    rw [gpd_s, ih _ (by omega), ups_n _ _ (by omega)]
def gms (e : Nat → Nat) : Nat → Nat
  | 0 => 0
  | k + 1 => gms e k + pcn (e k)
theorem gms_le (e : Nat → Nat) : ∀ k, gms e k ≤ 12 * k := by
  intro k
  induction k with
  | zero => exact Nat.le_refl _
  | succ k ih =>
    have := pcn_le (e k)
    show gms e k + pcn (e k) ≤ _
    omega
theorem pcn_sub {x y : Nat} (hx : x < 4096) (hs : ∀ i, y.testBit i = true → x.testBit i = true) : pcn y ≤ pcn x := by
  by_cases q : y = x
  · rw [q]; exact Nat.le_refl _
  · exact Nat.le_of_lt (pcn_lt hx hs q)
theorem gms_mono {e f : Nat → Nat} : ∀ k, (∀ i, i < k → f i < 4096) → (∀ i b, i < k → (e i).testBit b = true → (f i).testBit b = true) → gms e k ≤ gms f k := by
  intro k
  induction k with
  | zero => intro _ _; exact Nat.le_refl _
  | succ k ih =>
    intro h1 h2
    have := ih (fun i hi => h1 i (by omega)) (fun i b hi => h2 i b (by omega))
    have := pcn_sub (h1 k (by omega)) (fun b hb => h2 k b (by omega) hb)
    show gms e k + pcn (e k) ≤ gms f k + pcn (f k)
    omega
theorem gms_lt {e f : Nat → Nat} : ∀ k, (∀ i, i < k → f i < 4096) → (∀ i b, i < k → (e i).testBit b = true → (f i).testBit b = true) → (∃ i, i < k ∧ e i ≠ f i) → gms e k < gms f k := by
  intro k
  induction k with
  | zero => rintro _ _ ⟨i, hi, _⟩; exact absurd hi (Nat.not_lt_zero _)
  | succ k ih =>
    rintro h1 h2 ⟨i, hi, hne⟩
    show gms e k + pcn (e k) < gms f k + pcn (f k)
    by_cases q : i = k
    · subst q
      have := gms_mono i (fun j hj => h1 j (by omega)) (fun j b hj => h2 j b (by omega))
      have := pcn_lt (h1 i (by omega)) (fun b hb => h2 i b (by omega) hb) hne
      omega
    · have := ih (fun j hj => h1 j (by omega)) (fun j b hj => h2 j b (by omega)) ⟨i, by omega, hne⟩
      have := pcn_sub (h1 k (by omega)) (fun b hb => h2 k b (by omega) hb)
      omega
/-- so many passes -/
def git (ed : Nat → List Nat) (N : Nat) (e : Nat → Nat) : Nat → Nat → Nat
  | 0 => e
  | k + 1 => gpd ed N (git ed N e k)
section
variable {ed : Nat → List Nat} {N : Nat} {e : Nat → Nat}
theorem git_s (k : Nat) : git ed N e (k + 1) = gpd ed N (git ed N e k) := rfl
theorem git_lt (hd : edOK N ed) (h : ∀ i, i < N → e i < 4096) : ∀ k i, i < N → git ed N e k i < 4096 := by
  intro k
  induction k with
  | zero => exact h
  | succ k ih => exact gpd_lt hd N _ (Nat.le_refl _) ih
theorem git_ms (hd : edOK N ed) (h : ∀ i, i < N → e i < 4096) : ∀ k, (∀ j, j < k → git ed N e (j + 1) ≠ git ed N e j) → k ≤ gms (git ed N e k) N := by
  intro k
  induction k with
  | zero => intro _; exact Nat.zero_le _
  | succ k ih =>
    intro hc
    have h1 := ih (fun j hj => hc j (by omega))
    have h2 : gms (git ed N e k) N < gms (git ed N e (k + 1)) N := by
      refine gms_lt N (git_lt hd h (k + 1)) (fun i b hi hb => by rw [git_s]; exact gpd_ge N _ hb) ?_
      by_cases q : ∃ i, i < N ∧ git ed N e k i ≠ git ed N e (k + 1) i
      · exact q
      · exfalso
        apply hc k (by omega)
        funext i
        by_cases w : i < N
        · by_cases z : git ed N e k i = git ed N e (k + 1) i
          · exact z.symm
          · exact absurd ⟨i, w, z⟩ q
        · rw [git_s, gpd_out N _ (by omega)]
    omega
theorem git_60 (hd : edOK N ed) (h : ∀ i, i < N → e i < 4096) (hN : N ≤ 5000) {k : Nat} (hc : ∀ j, j < k → git ed N e (j + 1) ≠ git ed N e j) : k ≤ 60000 := by
  have h1 := git_ms hd h k hc
  have h2 := gms_le (git ed N e k) N
  omega
theorem git_stay {k : Nat} (h : git ed N e (k + 1) = git ed N e k) : ∀ m, git ed N e (k + m) = git ed N e k := by
  intro m
  induction m with
  | zero => rfl
  | succ m ih =>
    show gpd ed N (git ed N e (k + m)) = _
    rw [ih]
    exact h
theorem git_lim {k : Nat} (hk : k ≤ 60000) (h : git ed N e (k + 1) = git ed N e k) : git ed N e 60000 = git ed N e k := by
  have := git_stay h (60000 - k)
  rwa [show k + (60000 - k) = 60000 by omega] at this
end
theorem qcl_ed {suc : Nat → List (Nat × Nat)} {Q : ZQ} {ed : Nat → List Nat} (h : qcl suc Q.1 Q ed) : edOK Q.1 ed := by
  intro j hj k hk
  obtain ⟨h1, h2⟩ := h j hj
  have hm : (ed j).getD k 0 ∈ ed j := by
    rw [List.getD_eq_getElem?_getD, List.getElem?_eq_getElem hk]
    exact List.getElem_mem hk
  rw [h1] at hm
  obtain ⟨p, hp, e⟩ := List.mem_map.mp hm
  rw [h1, ← e]
  exact h2 p hp
def can0 (Q : ZQ) (i : Nat) : Nat := anyw (dcd (Q.2.1 i))
/-- what can be from the i-th on -/
def lim (Q : ZQ) (ed : Nat → List Nat) : Nat → Nat := git ed Q.1 (can0 Q) 60000
theorem can0_lt (Q : ZQ) (i : Nat) : can0 Q i < 4096 := anyw_lt _
theorem lim_lt {Q : ZQ} {ed : Nat → List Nat} (hd : edOK Q.1 ed) {i : Nat} (hi : i < Q.1) : lim Q ed i < 4096 := git_lt hd (fun i _ => can0_lt Q i) 60000 i hi
def p264 : Nat → Nat → Bool := fun o _ => o == 264
def cells (s : ZSt) (o N : Nat) (e : Nat → Nat) : Prop := ∀ j, j < N → gi s o j = nI (e j) ∧ e j < 4096
theorem XF.g {u v : ZSt} {a : ZA} {Q : ZQ} {ed : Nat → List Nat} (h : XF u a Q ed) (hE : zE p264 u v) : XF v a Q ed := h.fr hE (fun o j e => by simp [p264] at *; omega)
/-- how a pass stands when those below k are still to come -/
def psI (ed : Nat → List Nat) (N : Nat) (e0 : Nat → Nat) (k : Nat) (more : Int32) (e : Nat → Nat) : Prop :=
  gpd ed k e = gpd ed N e0 ∧ (∀ j, j < k → e j = e0 j) ∧ ((more = 0 ∧ e = e0) ∨ (more = 1 ∧ ∃ j, k ≤ j ∧ e j ≠ e0 j))
theorem psI_go {ed : Nat → List Nat} {N k : Nat} {e0 e : Nat → Nat} {more m' : Int32} (h : psI ed N e0 (k + 1) more e) (hm : m' = if more = 0 ∧ grw e k (ed k) = e k then 0 else 1) : psI ed N e0 k m' (ups e k (grw e k (ed k))) := by
  obtain ⟨h1, h2, h3⟩ := h
  refine ⟨h1, fun j hj => by rw [ups_n _ _ (by omega)]; exact h2 j (by omega), ?_⟩
  by_cases q : grw e k (ed k) = e k
  · rw [q, ups_same]
    rcases h3 with ⟨r1, r2⟩ | ⟨r1, j, r2, r3⟩
    · rw [if_pos ⟨r1, q⟩] at hm
      exact Or.inl ⟨hm, r2⟩
    · rw [if_neg (fun w => by rw [r1] at w; exact absurd w.1 (by decide))] at hm
      exact Or.inr ⟨hm, j, by omega, r3⟩
  · rw [if_neg (fun w => q w.2)] at hm
    refine Or.inr ⟨hm, k, Nat.le_refl _, ?_⟩
    rw [ups_s, ← h2 k (by omega)]
    exact q
set_option maxHeartbeats 1000000 in
theorem x_gather {n : Nat} {s : ZSt} {a : ZA} {Q : ZQ} {ed : Nat → List Nat} (hn : 70000 < n) (h : XF s a Q ed) (hd : edOK Q.1 ed) (h36 : ∀ j, j < Q.1 → (ed j).length ≤ 36) : zT (f_S_gather n s) (fun t => zE p264 s t ∧ cells t 264 Q.1 (lim Q ed)) := by
  have h50 := h.1.choose_spec.choose_spec.2.2.2.1.2.2
  have q180 : ∀ j, j ≤ Q.1 → qof ed j ≤ 36 * j := by
    intro j
    induction j with
    | zero => intro _; exact Nat.le_refl _
    | succ j ih =>
      intro hj
      have := ih (by omega)
      have := h36 j (by omega)
      show qof ed j + (ed j).length ≤ _
      omega
  unfold f_S_gather
  refine zT.cnt 5000 (fun k x => k ≤ Q.1 ∧ x.1 = nI k ∧ zE p264 s x.2 ∧ cells x.2 264 k (can0 Q)) (by omega) ⟨Nat.zero_le _, rfl, zE.refl _ _, fun j hj => absurd hj (Nat.not_lt_zero _)⟩ ?_
  rintro j k ⟨_, u⟩ hk ⟨hkQ, rfl, hE, hl⟩ hj
  dsimp only at *
  obtain ⟨⟨cl, sl', hX⟩, x2, x3, x4⟩ := h.g hE
  rw [hX.1]
  refine zT.ite (fun c => ?_) (fun c => ?_)
  rotate_left
  · rw [nI_leI (by omega) (by omega)] at c
    obtain ⟨g1, g2, _⟩ := hX.2.1 k (by omega)
    refine zT.gu (inb_n (by omega) (by decide)) ?_
    rw [al_n _ _ (by omega), g1, any_c g2, sai_n _ _ _ (by omega), nI_1]
    refine zT.ltS (zT.ltS (hj (by omega) _ ⟨by omega, rfl, hE.wi rfl, fun i hi => ?_⟩))
    dsimp only
    rw [gi_i]
    by_cases e : i = k
    · rw [if_pos ⟨rfl, e⟩, e]; exact ⟨rfl, can0_lt Q k⟩
    · rw [if_neg (fun w => e w.2)]; exact hl i (by omega)
  rw [nI_leI (by omega) (by omega)] at c
  have e : k = Q.1 := by omega
  subst e
  clear hj hk hkQ c
  refine zT.cnt 60000 (fun k x => x.2.1 = nI k ∧ zE p264 s x.2.2 ∧ cells x.2.2 264 Q.1 (git ed Q.1 (can0 Q) k) ∧ ((x.1 = 0 ∧ git ed Q.1 (can0 Q) (k + 1) = git ed Q.1 (can0 Q) k) ∨ x.1 = 1)) (by omega) ⟨rfl, hE, hl, Or.inr rfl⟩ ?_
  rintro j5 k ⟨m, _, v⟩ hk ⟨rfl, hE2, hc2, hm⟩ hj5
  dsimp only at *
  refine zT.ite (fun c => ?_) (fun c => ?_)
  · rcases hm with ⟨_, hm⟩ | hm
    · refine zT.ret ⟨hE2, ?_⟩
      show cells v 264 Q.1 (git ed Q.1 (can0 Q) 60000)
      rw [git_lim hk hm]
      exact hc2
    · rw [hm] at c; exact absurd c (by decide)
  refine zT.ite (fun c2 => ?_) (fun c2 => ?_)
  · rw [show (60000 : Int32) = nI 60000 from rfl, nI_leI (by omega) (by omega)] at c2
    have e : k = 60000 := by omega
    subst e
    exact zT.ret ⟨hE2, hc2⟩
  rw [show (60000 : Int32) = nI 60000 from rfl, nI_leI (by omega) (by omega)] at c2
  obtain ⟨⟨cl2, sl2, hX2⟩, _⟩ := h.g hE2
  rw [hX2.1]
  refine zT.ln (fun v8 hv8 => ?_)
  generalize he0 : git ed Q.1 (can0 Q) k = e0 at hc2
  refine zT.cnt Q.1 (fun c x => x.2.1 = (if c < Q.1 then nI (Q.1 - 1 - c) else -1) ∧ zE p264 s x.2.2 ∧ ∃ e, cells x.2.2 264 Q.1 e ∧ psI ed Q.1 e0 (Q.1 - c) x.1 e) (by omega) ⟨?_, hE2, e0, hc2, rfl, fun j hj => rfl, Or.inl ⟨rfl, rfl⟩⟩ ?_
  · dsimp only
    by_cases q : 0 < Q.1
    · rw [if_pos q, hv8, Nat.sub_zero, show Q.1 = (Q.1 - 1) + 1 by omega, show (nI (Q.1 - 1 + 1) - 1) = nI (Q.1 - 1) from nI_pred _, Nat.add_sub_cancel]
    · rw [if_neg q, hv8, show Q.1 = 0 by omega]; rfl
  rintro j10 c3 ⟨mo, w, y⟩ hc3 ⟨hw, hE3, e, hce, hps⟩ hj10
  dsimp only at *
  by_cases q : c3 < Q.1
  rotate_left
  · rw [if_neg q] at hw
    rw [hw]
    refine zT.it (by decide) ?_
    rw [show Q.1 - c3 = 0 by omega] at hps
    obtain ⟨r1, r2, r3⟩ := hps
    have r1 : e = gpd ed Q.1 e0 := r1
    have hg : git ed Q.1 (can0 Q) (k + 1) = e := by rw [git_s, he0, r1]
    rw [nI_1]
    refine zT.ltS (hj5 (by omega) _ ⟨rfl, hE3, by dsimp only; rw [hg]; exact hce, ?_⟩)
    dsimp only
    rcases r3 with ⟨t1, t2⟩ | ⟨t1, _⟩
    · refine Or.inl ⟨t1, ?_⟩
      rw [git_s, hg, t2]
      exact r1.symm.trans t2
    · exact Or.inr t1
  rw [if_pos q] at hw
  rw [hw]
  obtain ⟨d, hd'⟩ : ∃ d, d = Q.1 - 1 - c3 := ⟨_, rfl⟩
  rw [← hd']
  have hdQ : d < Q.1 := by omega
  rw [show Q.1 - c3 = d + 1 by omega] at hps
  obtain ⟨_, y2, y3, y4⟩ := h.g hE3
  refine zT.ie (nI_nneg (by omega)) (zT.gu (inb_n (by omega) (by decide)) ?_)
  rw [ai_n _ _ (by omega), (hce d hdQ).1]
  refine zT.ltS (zT.gu (inb_n (by omega) (by decide)) ?_)
  rw [ai_n _ _ (by omega), y3 d (by omega)]
  refine zT.ltS ?_
  have hq1 := q180 d (by omega)
  have hq2 := q180 (d + 1) (by omega)
  have hq3 : qof ed (d + 1) = qof ed d + (ed d).length := rfl
  refine zT.cnt (ed d).length (fun k x => x.1 = nI (gor e (e d) (ed d) k) ∧ x.2 = nI (qof ed d + k)) (by have := h36 d hdQ; omega) ⟨rfl, rfl⟩ ?_
  rintro j18 k2 ⟨_, _⟩ hk2 ⟨rfl, rfl⟩ hj18
  dsimp only at *
  have hgl : gor e (e d) (ed d) k2 < 4096 := gor_lt (hce d hdQ).2 _ (fun m hm => (hce _ (hd d hdQ m (by omega))).2)
  rw [nI_1, nI_1]
  refine zT.gu (inb_n (by omega) (by decide)) ?_
  rw [ai_n _ _ (by omega), y3 (d + 1) (by omega)]
  refine zT.ite (fun c4 => ?_) (fun c4 => ?_)
  · rw [nI_leI (by omega) (by omega)] at c4
    have e2 : k2 = (ed d).length := by omega
    subst e2
    have hv : gor e (e d) (ed d) (ed d).length = grw e d (ed d) := rfl
    rw [hv] at hgl ⊢
    refine zT.jnQ (fun z => zE p264 s z.2 ∧ ∃ e', cells z.2 264 Q.1 e' ∧ psI ed Q.1 e0 d z.1 e') ?_ ?_
    · rintro ⟨mo2, z⟩ ⟨z1, e', z2, z3⟩
      refine zT.ln (fun v22 hv22 => hj10 q _ ⟨?_, z1, e', z2, ?_⟩)
      · dsimp only
        by_cases q2 : c3 + 1 < Q.1
        · rw [if_pos q2, hv22, show d = (Q.1 - 1 - (c3 + 1)) + 1 by omega, nI_m1 (by omega)]
        · rw [if_neg q2, hv22, show d = 0 by omega]; rfl
      · rw [show Q.1 - (c3 + 1) = d by omega]
        exact z3
    · intro j23 hj23
      have hmo : mo = 0 ∨ mo = 1 := hps.2.2.elim (fun w => Or.inl w.1) (fun w => Or.inr w.1)
      refine zT.ite (fun c5 => ?_) (fun c5 => ?_)
      · have c5 := (nI_eq (by omega) (by have := (hce d hdQ).2; omega)).mp c5
        refine hj23 _ ⟨hE3, ups e d (grw e d (ed d)), by rw [c5, ups_same]; exact hce, psI_go hps ?_⟩
        dsimp only
        rcases hmo with w | w
        · rw [w, if_pos ⟨rfl, c5⟩]
        · rw [w, if_neg (fun z => absurd z.1 (by decide))]
      · have c5 : ¬ grw e d (ed d) = e d := fun w => c5 (by rw [w])
        rw [sai_n _ _ _ (by omega)]
        refine zT.ltS (hj23 _ ⟨hE3.wi rfl, ups e d (grw e d (ed d)), fun j hj => ?_, psI_go hps (by dsimp only; rw [if_neg (fun z => c5 z.2)])⟩)
        dsimp only
        rw [gi_i, ups_i]
        by_cases e3 : j = d
        · rw [if_pos ⟨rfl, e3⟩, if_pos e3]
          exact ⟨rfl, hgl⟩
        · rw [if_neg (fun w => e3 w.2), if_neg e3]
          exact hce j hj
  · rw [nI_leI (by omega) (by omega)] at c4
    have hk3 : k2 < (ed d).length := by omega
    have hx := hd d hdQ k2 hk3
    refine zT.gu (inb_n (by omega) (by decide)) ?_
    rw [ai_n y 269 (show qof ed d + k2 < 2 ^ 31 by omega), y4 d k2 hdQ hk3]
    refine zT.gu (inb_n (by omega) (by decide)) ?_
    rw [ai_n _ _ (by omega), (hce _ hx).1, nI_or]
    refine zT.ltS (zT.ltS (hj18 hk3 _ ⟨by rw [gor_s], ?_⟩))
    dsimp only
    rw [Nat.add_assoc]
end Z80
