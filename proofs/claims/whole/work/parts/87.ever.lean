-- what can ever be from a set on, on one table
section Z87
def evP (a : ZA) (t x i : Nat) : Prop := ∃ c, rea (sucA a (wtb t)) (oc t x) c ∧ (anyw (dcd c)).testBit i = true
noncomputable def evr (a : ZA) (t x : Nat) : Nat := mkm (fun i => @decide (evP a t x i) (Classical.propDecidable _)) 12
theorem evr_lt (a : ZA) (t x : Nat) : evr a t x < 4096 := mkm_lt _ 12
theorem rea_O {a : ZA} {t x c : Nat} (ht : t < 3) (hnb : a.2.1.1 ≤ 12) (hx : x < 2 ^ a.2.1.1) (h : rea (sucA a (wtb t)) (oc t x) c) : onO a t c := h.ind (P := onO a t) ⟨x, hx, rfl⟩ (onO_suc ht hnb)
theorem evr_t {a : ZA} {t x : Nat} (ht : t < 3) (hnb : a.2.1.1 ≤ 12) (hx : x < 2 ^ a.2.1.1) (i : Nat) : (evr a t x).testBit i = true ↔ evP a t x i := by
  unfold evr
  rw [mkm_t, Bool.and_eq_true, decide_eq_true_eq]
  constructor
  · rintro ⟨_, h⟩
    exact @of_decide_eq_true _ (Classical.propDecidable _) h
  · intro h
    refine ⟨?_, @decide_eq_true _ (Classical.propDecidable _) h⟩
    obtain ⟨c, h1, h2⟩ := h
    have h12 := pw_12 hnb
    obtain ⟨y, hy, rfl⟩ := rea_O ht hnb hx h1
    rw [oc_any ht (by omega)] at h2
    rcases Nat.lt_or_ge i 12 with w | w
    · exact w
    · rw [tb_big (n := a.2.1.1) hy (by omega)] at h2; cases h2
theorem evr_eq {a : ZA} {t x v : Nat} (ht : t < 3) (hnb : a.2.1.1 ≤ 12) (hx : x < 2 ^ a.2.1.1) (h1 : ∀ i, v.testBit i = true → evP a t x i) (h2 : ∀ i, evP a t x i → v.testBit i = true) : v = evr a t x := by
  apply Nat.eq_of_testBit_eq
  intro i
  rw [Bool.eq_iff_iff, evr_t ht hnb hx]
  exact ⟨h1 i, h2 i⟩
-- passes in place: sound, and closed once nothing changes
def snd' (suc : Nat → List (Nat × Nat)) (Q : ZQ) (e : Nat → Nat) : Prop := ∀ i, i < Q.1 → ∀ b, (e i).testBit b = true → ∃ c, rea suc (Q.2.1 i) c ∧ (anyw (dcd c)).testBit b = true
section
variable {suc : Nat → List (Nat × Nat)} {Q : ZQ} {ed : Nat → List Nat}
theorem ed_mem (hcl : qcl suc Q.1 Q ed) {i k : Nat} (hi : i < Q.1) (hk : k < (ed i).length) : ∃ b, (b, Q.2.1 ((ed i).getD k 0)) ∈ suc (Q.2.1 i) ∧ (ed i).getD k 0 < Q.1 := by
  obtain ⟨h1, h2⟩ := hcl i hi
  have hm : (ed i).getD k 0 ∈ ed i := by
    rw [List.getD_eq_getElem?_getD, List.getElem?_eq_getElem hk]
    exact List.getElem_mem hk
  rw [h1] at hm
  obtain ⟨p, hp, e⟩ := List.mem_map.mp hm
  have h3 := h2 p hp
  rw [h1, ← e]
  rcases qat_cases Q p.2 with ⟨g1, g2⟩ | ⟨g1, _⟩
  · exact ⟨p.1, by rw [g2]; exact hp, g1⟩
  · omega
theorem snd_pass (hcl : qcl suc Q.1 Q ed) : ∀ k e, k ≤ Q.1 → snd' suc Q e → snd' suc Q (gpd ed k e) := by
  intro k
  induction k with
  | zero => intro e _ h; exact h
  | succ k ih =>
    intro e hk h
    rw [gpd_s]
    refine ih _ (by omega) (fun i hi b hb => ?_)
    rw [ups_i] at hb
    by_cases q : i = k
    · rw [if_pos q] at hb
      subst q
      unfold grw at hb
      rw [gor_t] at hb
      rcases hb with hb | ⟨j, hj, hb⟩
      · exact h i hi b hb
      · obtain ⟨b', m1, m2⟩ := ed_mem hcl hi hj
        obtain ⟨c, c1, c2⟩ := h _ m2 b hb
        exact ⟨c, rea.trans (rea.step (rea.refl _ _) m1) c1, c2⟩
    · rw [if_neg q] at hb
      exact h i hi b hb
theorem snd_git (hcl : qcl suc Q.1 Q ed) : ∀ k, snd' suc Q (git ed Q.1 (can0 Q) k) := by
  intro k
  induction k with
  | zero => exact fun i hi b hb => ⟨Q.2.1 i, rea.refl _ _, hb⟩
  | succ k ih => rw [git_s]; exact snd_pass hcl _ _ (Nat.le_refl _) ih
theorem fix_grw : ∀ k e, gpd ed k e = e → ∀ j, j < k → grw e j (ed j) = e j := by
  intro k
  induction k with
  | zero => intro e _ j hj; exact absurd hj (Nat.not_lt_zero _)
  | succ k ih =>
    intro e h j hj
    rw [gpd_s] at h
    have h1 : grw e k (ed k) = e k := by
      have := congrFun h k
      rw [gpd_out k _ (Nat.le_refl _), ups_s] at this
      exact this
    rw [h1, ups_same] at h
    by_cases q : j = k
    · rw [q]; exact h1
    · exact ih e h j (by omega)
theorem lim_fix (hd : edOK Q.1 ed) (hN : Q.1 ≤ 5000) : gpd ed Q.1 (lim Q ed) = lim Q ed := by
  have : ∃ j, j < 60001 ∧ git ed Q.1 (can0 Q) (j + 1) = git ed Q.1 (can0 Q) j := by
    apply Classical.byContradiction
    intro h
    have := git_60 hd (fun i _ => can0_lt Q i) hN (k := 60001) (fun j hj e => h ⟨j, hj, e⟩)
    omega
  obtain ⟨j, hj, e⟩ := this
  have h1 : lim Q ed = git ed Q.1 (can0 Q) j := git_lim (by omega) e
  rw [h1, ← git_s, e]
theorem can0_lim : ∀ (k i b : Nat), (can0 Q i).testBit b = true → (git ed Q.1 (can0 Q) k i).testBit b = true := by
  intro k
  induction k with
  | zero => intro i b h; exact h
  | succ k ih => intro i b h; rw [git_s]; exact gpd_ge _ _ (ih i b h)
theorem lim_t (hcl : qcl suc Q.1 Q ed) (hN : Q.1 ≤ 5000) {i : Nat} (hi : i < Q.1) (b : Nat) : (lim Q ed i).testBit b = true ↔ ∃ c, rea suc (Q.2.1 i) c ∧ (anyw (dcd c)).testBit b = true := by
  constructor
  · exact snd_git hcl 60000 i hi b
  · rintro ⟨c, h1, h2⟩
    have hd := qcl_ed hcl
    have hfix := fix_grw _ _ (lim_fix hd hN)
    have key : ∃ j, j < Q.1 ∧ Q.2.1 j = c ∧ ∀ b, (lim Q ed j).testBit b = true → (lim Q ed i).testBit b = true := by
      refine h1.ind (P := fun c => ∃ j, j < Q.1 ∧ Q.2.1 j = c ∧ ∀ b, (lim Q ed j).testBit b = true → (lim Q ed i).testBit b = true) ⟨i, hi, rfl, fun b h => h⟩ ?_
      rintro y b' x ⟨j, j1, rfl, j3⟩ hm
      obtain ⟨e1, e2⟩ := hcl j j1
      have hq := e2 _ hm
      have hmem : qat Q x ∈ ed j := by rw [e1]; exact List.mem_map.mpr ⟨_, hm, rfl⟩
      obtain ⟨k, hk, ek⟩ := List.getElem_of_mem hmem
      refine ⟨qat Q x, hq, ?_, fun b hb => j3 b ?_⟩
      · rcases qat_cases Q x with ⟨_, g2⟩ | ⟨g1, _⟩
        · exact g2
        · exact absurd hq (by show ¬ qat Q x < Q.1; omega)
      · rw [← hfix j j1]
        unfold grw
        rw [gor_t]
        refine Or.inr ⟨k, hk, ?_⟩
        rw [List.getD_eq_getElem?_getD, List.getElem?_eq_getElem hk, ek]
        exact hb
    obtain ⟨j, j1, j2, j3⟩ := key
    refine j3 b (can0_lim 60000 j b ?_)
    unfold can0
    rw [j2]
    exact h2
end
theorem lim_evr {a : ZA} {t i : Nat} {Q : ZQ} {ed : Nat → List Nat} (ht : t < 3) (hnb : a.2.1.1 ≤ 12) (hcl : qcl (sucA a (wtb t)) Q.1 Q ed) (hN : Q.1 ≤ 5000) (hi : i < Q.1) {x : Nat} (hx : x < 2 ^ a.2.1.1) (e : Q.2.1 i = oc t x) : lim Q ed i = evr a t x := by
  refine evr_eq ht hnb hx (fun b hb => ?_) (fun b hb => ?_)
  · have := (lim_t hcl hN hi b).mp hb
    rw [e] at this
    exact this
  · refine (lim_t hcl hN hi b).mpr ?_
    rw [e]
    exact hb
-- keeps, plainly
def klt (k : Nat) : Option Nat → Bool
  | none => true
  | some b => decide (pcn k < pcn b)
def kpt (a : ZA) (t Y k : Nat) (ev : Nat → Nat) (o : Option Nat) : Bool := decide (pcn k ≤ a.2.1.2.2.2.2.2 t) && (klt k o && decide (ndf Y (ev (stt (aD a) a.2.1.1 t k)) = 0))
noncomputable def kps (a : ZA) (t Y : Nat) : Nat → Option Nat
  | 0 => none
  | k + 1 => if kpt a t Y k (evr a t) (kps a t Y k) = true then some k else kps a t Y k
theorem kps_s (a : ZA) (t Y k : Nat) : kps a t Y (k + 1) = if kpt a t Y k (evr a t) (kps a t Y k) = true then some k else kps a t Y k := rfl
theorem kps_lt (a : ZA) (t Y : Nat) : ∀ k b, kps a t Y k = some b → b < k := by
  intro k
  induction k with
  | zero => intro b h; cases h
  | succ k ih =>
    intro b h
    rw [kps_s] at h
    by_cases q : kpt a t Y k (evr a t) (kps a t Y k) = true
    · rw [if_pos q] at h; cases h; exact Nat.lt_succ_self _
    · rw [if_neg q] at h
      exact Nat.lt_succ_of_lt (ih b h)
def oI : Option Nat → Int32
  | none => -1
  | some b => nI b
noncomputable def sKeeps (x y : Int32) (a : ZA) : Int32 × ZA := if inb x 3 = true ∧ inb y (2 ^ a.2.1.1) = true then (match kps a x.toNatClampNeg y.toNatClampNeg (2 ^ a.2.1.1) with
  | none => (-2, a)
  | some b => (nI (pcn b), putR a [nI b])) else (-1, a)
end Z87
